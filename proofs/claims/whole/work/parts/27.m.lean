/-! X12_readCheck -/
theorem dX12_readCheck_0 : decode cX12_readCheck 0 = .ok (.aload_n 0, 1) := by decide +kernel
theorem dX12_readCheck_1 : decode cX12_readCheck 1 = .ok (.getfield 37, 3) := by decide +kernel
theorem dX12_readCheck_4 : decode cX12_readCheck 4 = .ok (.iconst 3, 1) := by decide +kernel
theorem dX12_readCheck_5 : decode cX12_readCheck 5 = .ok (.iaload, 1) := by decide +kernel
theorem dX12_readCheck_6 : decode cX12_readCheck 6 = .ok (.istore_n 1, 1) := by decide +kernel
theorem dX12_readCheck_7 : decode cX12_readCheck 7 = .ok (.aload_n 0, 1) := by decide +kernel
theorem dX12_readCheck_8 : decode cX12_readCheck 8 = .ok (.invokevirtual 226, 3) := by decide +kernel
theorem dX12_readCheck_11 : decode cX12_readCheck 11 = .ok (.aload_n 0, 1) := by decide +kernel
theorem dX12_readCheck_12 : decode cX12_readCheck 12 = .ok (.invokevirtual 282, 3) := by decide +kernel
theorem dX12_readCheck_15 : decode cX12_readCheck 15 = .ok (.ifCond .ne 5, 3) := by decide +kernel
theorem dX12_readCheck_18 : decode cX12_readCheck 18 = .ok (.iconst 0, 1) := by decide +kernel
theorem dX12_readCheck_19 : decode cX12_readCheck 19 = .ok (.ireturn, 1) := by decide +kernel
theorem dX12_readCheck_20 : decode cX12_readCheck 20 = .ok (.aload_n 0, 1) := by decide +kernel
theorem dX12_readCheck_21 : decode cX12_readCheck 21 = .ok (.getfield 233, 3) := by decide +kernel
theorem dX12_readCheck_24 : decode cX12_readCheck 24 = .ok (.istore_n 2, 1) := by decide +kernel
theorem dX12_readCheck_25 : decode cX12_readCheck 25 = .ok (.aload_n 0, 1) := by decide +kernel
theorem dX12_readCheck_26 : decode cX12_readCheck 26 = .ok (.iload_n 2, 1) := by decide +kernel
theorem dX12_readCheck_27 : decode cX12_readCheck 27 = .ok (.invokevirtual 273, 3) := by decide +kernel
theorem dX12_readCheck_30 : decode cX12_readCheck 30 = .ok (.ifCond .ne 5, 3) := by decide +kernel
theorem dX12_readCheck_33 : decode cX12_readCheck 33 = .ok (.iconst 0, 1) := by decide +kernel
theorem dX12_readCheck_34 : decode cX12_readCheck 34 = .ok (.ireturn, 1) := by decide +kernel
theorem dX12_readCheck_35 : decode cX12_readCheck 35 = .ok (.aload_n 0, 1) := by decide +kernel
theorem dX12_readCheck_36 : decode cX12_readCheck 36 = .ok (.getfield 233, 3) := by decide +kernel
theorem dX12_readCheck_39 : decode cX12_readCheck 39 = .ok (.istore_n 3, 1) := by decide +kernel
theorem dX12_readCheck_40 : decode cX12_readCheck 40 = .ok (.aload_n 0, 1) := by decide +kernel
theorem dX12_readCheck_41 : decode cX12_readCheck 41 = .ok (.getfield 197, 3) := by decide +kernel
theorem dX12_readCheck_44 : decode cX12_readCheck 44 = .ok (.iconst 3, 1) := by decide +kernel
theorem dX12_readCheck_45 : decode cX12_readCheck 45 = .ok (.if_icmp .ne 17, 3) := by decide +kernel
theorem dX12_readCheck_48 : decode cX12_readCheck 48 = .ok (.aload_n 0, 1) := by decide +kernel
theorem dX12_readCheck_49 : decode cX12_readCheck 49 = .ok (.getfield 207, 3) := by decide +kernel
theorem dX12_readCheck_52 : decode cX12_readCheck 52 = .ok (.bipush 60, 2) := by decide +kernel
theorem dX12_readCheck_54 : decode cX12_readCheck 54 = .ok (.bipush 62, 2) := by decide +kernel
theorem dX12_readCheck_56 : decode cX12_readCheck 56 = .ok (.invokestatic 229, 3) := by decide +kernel
theorem dX12_readCheck_59 : decode cX12_readCheck 59 = .ok (.ifCond .ne 9, 3) := by decide +kernel
theorem dX12_readCheck_62 : decode cX12_readCheck 62 = .ok (.aload_n 0, 1) := by decide +kernel
theorem dX12_readCheck_63 : decode cX12_readCheck 63 = .ok (.iconst 1, 1) := by decide +kernel
theorem dX12_readCheck_64 : decode cX12_readCheck 64 = .ok (.invokevirtual 223, 3) := by decide +kernel
theorem dX12_readCheck_67 : decode cX12_readCheck 67 = .ok (.ireturn, 1) := by decide +kernel
theorem dX12_readCheck_68 : decode cX12_readCheck 68 = .ok (.aload_n 0, 1) := by decide +kernel
theorem dX12_readCheck_69 : decode cX12_readCheck 69 = .ok (.getfield 37, 3) := by decide +kernel
theorem dX12_readCheck_72 : decode cX12_readCheck 72 = .ok (.bipush 124, 2) := by decide +kernel
theorem dX12_readCheck_74 : decode cX12_readCheck 74 = .ok (.iload_n 1, 1) := by decide +kernel
theorem dX12_readCheck_75 : decode cX12_readCheck 75 = .ok (.iadd, 1) := by decide +kernel
theorem dX12_readCheck_76 : decode cX12_readCheck 76 = .ok (.aload_n 0, 1) := by decide +kernel
theorem dX12_readCheck_77 : decode cX12_readCheck 77 = .ok (.getfield 207, 3) := by decide +kernel
theorem dX12_readCheck_80 : decode cX12_readCheck 80 = .ok (.iastore, 1) := by decide +kernel
theorem dX12_readCheck_81 : decode cX12_readCheck 81 = .ok (.aload_n 0, 1) := by decide +kernel
theorem dX12_readCheck_82 : decode cX12_readCheck 82 = .ok (.invokevirtual 226, 3) := by decide +kernel
theorem dX12_readCheck_85 : decode cX12_readCheck 85 = .ok (.aload_n 0, 1) := by decide +kernel
theorem dX12_readCheck_86 : decode cX12_readCheck 86 = .ok (.getfield 37, 3) := by decide +kernel
theorem dX12_readCheck_89 : decode cX12_readCheck 89 = .ok (.sipush 136, 3) := by decide +kernel
theorem dX12_readCheck_92 : decode cX12_readCheck 92 = .ok (.iload_n 1, 1) := by decide +kernel
theorem dX12_readCheck_93 : decode cX12_readCheck 93 = .ok (.iadd, 1) := by decide +kernel
theorem dX12_readCheck_94 : decode cX12_readCheck 94 = .ok (.iconst (-1), 1) := by decide +kernel
theorem dX12_readCheck_95 : decode cX12_readCheck 95 = .ok (.iastore, 1) := by decide +kernel
theorem dX12_readCheck_96 : decode cX12_readCheck 96 = .ok (.aload_n 0, 1) := by decide +kernel
theorem dX12_readCheck_97 : decode cX12_readCheck 97 = .ok (.getfield 197, 3) := by decide +kernel
theorem dX12_readCheck_100 : decode cX12_readCheck 100 = .ok (.iconst 2, 1) := by decide +kernel
theorem dX12_readCheck_101 : decode cX12_readCheck 101 = .ok (.if_icmp .ne 32, 3) := by decide +kernel
theorem dX12_readCheck_104 : decode cX12_readCheck 104 = .ok (.aload_n 0, 1) := by decide +kernel
theorem dX12_readCheck_105 : decode cX12_readCheck 105 = .ok (.iconst 0, 1) := by decide +kernel
theorem dX12_readCheck_106 : decode cX12_readCheck 106 = .ok (.bipush 99, 2) := by decide +kernel
theorem dX12_readCheck_108 : decode cX12_readCheck 108 = .ok (.invokevirtual 299, 3) := by decide +kernel
theorem dX12_readCheck_111 : decode cX12_readCheck 111 = .ok (.ifCond .ne 5, 3) := by decide +kernel
theorem dX12_readCheck_114 : decode cX12_readCheck 114 = .ok (.iconst 0, 1) := by decide +kernel
theorem dX12_readCheck_115 : decode cX12_readCheck 115 = .ok (.ireturn, 1) := by decide +kernel
theorem dX12_readCheck_116 : decode cX12_readCheck 116 = .ok (.aload_n 0, 1) := by decide +kernel
theorem dX12_readCheck_117 : decode cX12_readCheck 117 = .ok (.getfield 37, 3) := by decide +kernel
theorem dX12_readCheck_120 : decode cX12_readCheck 120 = .ok (.sipush 130, 3) := by decide +kernel
theorem dX12_readCheck_123 : decode cX12_readCheck 123 = .ok (.iload_n 1, 1) := by decide +kernel
theorem dX12_readCheck_124 : decode cX12_readCheck 124 = .ok (.iadd, 1) := by decide +kernel
theorem dX12_readCheck_125 : decode cX12_readCheck 125 = .ok (.aload_n 0, 1) := by decide +kernel
theorem dX12_readCheck_126 : decode cX12_readCheck 126 = .ok (.getfield 233, 3) := by decide +kernel
theorem dX12_readCheck_129 : decode cX12_readCheck 129 = .ok (.iastore, 1) := by decide +kernel
theorem dX12_readCheck_130 : decode cX12_readCheck 130 = .ok (.goto 58, 3) := by decide +kernel
theorem dX12_readCheck_133 : decode cX12_readCheck 133 = .ok (.aload_n 0, 1) := by decide +kernel
theorem dX12_readCheck_134 : decode cX12_readCheck 134 = .ok (.bipush 24, 2) := by decide +kernel
theorem dX12_readCheck_136 : decode cX12_readCheck 136 = .ok (.iconst 4, 1) := by decide +kernel
theorem dX12_readCheck_137 : decode cX12_readCheck 137 = .ok (.iload_n 2, 1) := by decide +kernel
theorem dX12_readCheck_138 : decode cX12_readCheck 138 = .ok (.imul, 1) := by decide +kernel
theorem dX12_readCheck_139 : decode cX12_readCheck 139 = .ok (.iadd, 1) := by decide +kernel
theorem dX12_readCheck_140 : decode cX12_readCheck 140 = .ok (.aload_n 0, 1) := by decide +kernel
theorem dX12_readCheck_141 : decode cX12_readCheck 141 = .ok (.getfield 37, 3) := by decide +kernel
theorem dX12_readCheck_144 : decode cX12_readCheck 144 = .ok (.iconst 4, 1) := by decide +kernel
theorem dX12_readCheck_145 : decode cX12_readCheck 145 = .ok (.iload_n 2, 1) := by decide +kernel
theorem dX12_readCheck_146 : decode cX12_readCheck 146 = .ok (.iadd, 1) := by decide +kernel
theorem dX12_readCheck_147 : decode cX12_readCheck 147 = .ok (.iaload, 1) := by decide +kernel
theorem dX12_readCheck_148 : decode cX12_readCheck 148 = .ok (.invokevirtual 244, 3) := by decide +kernel
theorem dX12_readCheck_151 : decode cX12_readCheck 151 = .ok (.ifCond .ne 5, 3) := by decide +kernel
theorem dX12_readCheck_154 : decode cX12_readCheck 154 = .ok (.iconst 0, 1) := by decide +kernel
theorem dX12_readCheck_155 : decode cX12_readCheck 155 = .ok (.ireturn, 1) := by decide +kernel
theorem dX12_readCheck_156 : decode cX12_readCheck 156 = .ok (.aload_n 0, 1) := by decide +kernel
theorem dX12_readCheck_157 : decode cX12_readCheck 157 = .ok (.getfield 233, 3) := by decide +kernel
theorem dX12_readCheck_160 : decode cX12_readCheck 160 = .ok (.iload_n 3, 1) := by decide +kernel
theorem dX12_readCheck_161 : decode cX12_readCheck 161 = .ok (.if_icmp .ne 9, 3) := by decide +kernel
theorem dX12_readCheck_164 : decode cX12_readCheck 164 = .ok (.aload_n 0, 1) := by decide +kernel
theorem dX12_readCheck_165 : decode cX12_readCheck 165 = .ok (.iconst 3, 1) := by decide +kernel
theorem dX12_readCheck_166 : decode cX12_readCheck 166 = .ok (.invokevirtual 223, 3) := by decide +kernel
theorem dX12_readCheck_169 : decode cX12_readCheck 169 = .ok (.ireturn, 1) := by decide +kernel
theorem dX12_readCheck_170 : decode cX12_readCheck 170 = .ok (.aload_n 0, 1) := by decide +kernel
theorem dX12_readCheck_171 : decode cX12_readCheck 171 = .ok (.getfield 37, 3) := by decide +kernel
theorem dX12_readCheck_174 : decode cX12_readCheck 174 = .ok (.sipush 136, 3) := by decide +kernel
theorem dX12_readCheck_177 : decode cX12_readCheck 177 = .ok (.iload_n 1, 1) := by decide +kernel
theorem dX12_readCheck_178 : decode cX12_readCheck 178 = .ok (.iadd, 1) := by decide +kernel
theorem dX12_readCheck_179 : decode cX12_readCheck 179 = .ok (.aload_n 0, 1) := by decide +kernel
theorem dX12_readCheck_180 : decode cX12_readCheck 180 = .ok (.getfield 233, 3) := by decide +kernel
theorem dX12_readCheck_183 : decode cX12_readCheck 183 = .ok (.iastore, 1) := by decide +kernel
theorem dX12_readCheck_184 : decode cX12_readCheck 184 = .ok (.aload_n 0, 1) := by decide +kernel
theorem dX12_readCheck_185 : decode cX12_readCheck 185 = .ok (.invokevirtual 226, 3) := by decide +kernel
theorem dX12_readCheck_188 : decode cX12_readCheck 188 = .ok (.aload_n 0, 1) := by decide +kernel
theorem dX12_readCheck_189 : decode cX12_readCheck 189 = .ok (.getfield 37, 3) := by decide +kernel
theorem dX12_readCheck_192 : decode cX12_readCheck 192 = .ok (.bipush 112, 2) := by decide +kernel
theorem dX12_readCheck_194 : decode cX12_readCheck 194 = .ok (.iload_n 1, 1) := by decide +kernel
theorem dX12_readCheck_195 : decode cX12_readCheck 195 = .ok (.iadd, 1) := by decide +kernel
theorem dX12_readCheck_196 : decode cX12_readCheck 196 = .ok (.iload_n 2, 1) := by decide +kernel
theorem dX12_readCheck_197 : decode cX12_readCheck 197 = .ok (.iastore, 1) := by decide +kernel
theorem dX12_readCheck_198 : decode cX12_readCheck 198 = .ok (.aload_n 0, 1) := by decide +kernel
theorem dX12_readCheck_199 : decode cX12_readCheck 199 = .ok (.getfield 37, 3) := by decide +kernel
theorem dX12_readCheck_202 : decode cX12_readCheck 202 = .ok (.bipush 118, 2) := by decide +kernel
theorem dX12_readCheck_204 : decode cX12_readCheck 204 = .ok (.iload_n 1, 1) := by decide +kernel
theorem dX12_readCheck_205 : decode cX12_readCheck 205 = .ok (.iadd, 1) := by decide +kernel
theorem dX12_readCheck_206 : decode cX12_readCheck 206 = .ok (.iload_n 3, 1) := by decide +kernel
theorem dX12_readCheck_207 : decode cX12_readCheck 207 = .ok (.iastore, 1) := by decide +kernel
theorem dX12_readCheck_208 : decode cX12_readCheck 208 = .ok (.aload_n 0, 1) := by decide +kernel
theorem dX12_readCheck_209 : decode cX12_readCheck 209 = .ok (.getfield 37, 3) := by decide +kernel
theorem dX12_readCheck_212 : decode cX12_readCheck 212 = .ok (.sipush 142, 3) := by decide +kernel
theorem dX12_readCheck_215 : decode cX12_readCheck 215 = .ok (.iload_n 1, 1) := by decide +kernel
theorem dX12_readCheck_216 : decode cX12_readCheck 216 = .ok (.iadd, 1) := by decide +kernel
theorem dX12_readCheck_217 : decode cX12_readCheck 217 = .ok (.aload_n 0, 1) := by decide +kernel
theorem dX12_readCheck_218 : decode cX12_readCheck 218 = .ok (.ldc2_w 147, 3) := by decide +kernel
theorem dX12_readCheck_221 : decode cX12_readCheck 221 = .ok (.invokevirtual 248, 3) := by decide +kernel
theorem dX12_readCheck_224 : decode cX12_readCheck 224 = .ok (.ifCond .eq 7, 3) := by decide +kernel
theorem dX12_readCheck_227 : decode cX12_readCheck 227 = .ok (.iconst 1, 1) := by decide +kernel
theorem dX12_readCheck_228 : decode cX12_readCheck 228 = .ok (.goto 4, 3) := by decide +kernel
theorem dX12_readCheck_231 : decode cX12_readCheck 231 = .ok (.iconst 0, 1) := by decide +kernel
theorem dX12_readCheck_232 : decode cX12_readCheck 232 = .ok (.iastore, 1) := by decide +kernel
theorem dX12_readCheck_233 : decode cX12_readCheck 233 = .ok (.aload_n 0, 1) := by decide +kernel
theorem dX12_readCheck_234 : decode cX12_readCheck 234 = .ok (.ldc2_w 147, 3) := by decide +kernel
theorem dX12_readCheck_237 : decode cX12_readCheck 237 = .ok (.invokevirtual 248, 3) := by decide +kernel
theorem dX12_readCheck_240 : decode cX12_readCheck 240 = .ok (.ifCond .eq 7, 3) := by decide +kernel
theorem dX12_readCheck_243 : decode cX12_readCheck 243 = .ok (.aload_n 0, 1) := by decide +kernel
theorem dX12_readCheck_244 : decode cX12_readCheck 244 = .ok (.invokevirtual 226, 3) := by decide +kernel
theorem dX12_readCheck_247 : decode cX12_readCheck 247 = .ok (.aload_n 0, 1) := by decide +kernel
theorem dX12_readCheck_248 : decode cX12_readCheck 248 = .ok (.getfield 37, 3) := by decide +kernel
theorem dX12_readCheck_251 : decode cX12_readCheck 251 = .ok (.iconst 3, 1) := by decide +kernel
theorem dX12_readCheck_252 : decode cX12_readCheck 252 = .ok (.dup2, 1) := by decide +kernel
theorem dX12_readCheck_253 : decode cX12_readCheck 253 = .ok (.iaload, 1) := by decide +kernel
theorem dX12_readCheck_254 : decode cX12_readCheck 254 = .ok (.iconst 1, 1) := by decide +kernel
theorem dX12_readCheck_255 : decode cX12_readCheck 255 = .ok (.iadd, 1) := by decide +kernel
theorem dX12_readCheck_256 : decode cX12_readCheck 256 = .ok (.iastore, 1) := by decide +kernel
theorem dX12_readCheck_257 : decode cX12_readCheck 257 = .ok (.iconst 1, 1) := by decide +kernel
theorem dX12_readCheck_258 : decode cX12_readCheck 258 = .ok (.ireturn, 1) := by decide +kernel
abbrev M_X12_readCheck : mM := (cX12_readCheck, 4, RX12, some .boolean, false, 4, 88, 0, 0)
theorem gX12_readCheck : cI yX12_readCheck M_X12_readCheck 0 := ⟨(wsl_28 _ (List.mem_of_getElem? (i := 9) rfl)), (wsl_28 _ (List.mem_of_getElem? (i := 10) rfl)), (wsl_1 _ (List.mem_of_getElem? (i := 5) rfl)), (wsl_28 _ (List.mem_of_getElem? (i := 11) rfl)), by decide +kernel⟩
noncomputable def fX12_readCheck_b247 (h : hH) (a0 : Int) : Option (Int × hH) :=
  (aget h (h a0 7) 3).bind fun v253 =>
  (aput h (h a0 7) 3 (w32 (v253 + 1))).bind fun h256 =>
  some (1, h256)
noncomputable def fX12_readCheck_b232 (h : hH) (a0 s0 s1 s2 : Int) : Option (Int × hH) :=
  (aput h s2 s1 s0).bind fun h232 =>
  (fX12_isWord h232 a0 1818326117).bind fun r237 =>
  if r237 = 0 then
    fX12_readCheck_b247 h232 a0
  else
    (fX12_next h232 a0).bind fun h244 =>
    fX12_readCheck_b247 h244 a0
noncomputable def fX12_readCheck_b188 (h : hH) (a0 l1 l2 l3 : Int) : Option (Int × hH) :=
  (aput h (h a0 7) (w32 (112 + l1)) l2).bind fun h197 =>
  (aput h197 (h197 a0 7) (w32 (118 + l1)) l3).bind fun h207 =>
  (fX12_isWord h207 a0 1818326117).bind fun r221 =>
  if r221 = 0 then
    fX12_readCheck_b232 h207 a0 0 (w32 (142 + l1)) (h207 a0 7)
  else
    fX12_readCheck_b232 h207 a0 1 (w32 (142 + l1)) (h207 a0 7)
noncomputable def fX12_readCheck_b62 (h : hH) (a0 : Int) : Option (Int × hH) :=
  (fX12_bad h a0 1).bind fun q64 =>
  some (q64.1, q64.2)
noncomputable def fX12_readCheck (h : hH) (a0 : Int) : Option (Int × hH) :=
  (aget h (h a0 7) 3).bind fun v5 =>
  (fX12_next h a0).bind fun h8 =>
  (fX12_takesTable h8 a0).bind fun q12 =>
  if q12.1 = 0 then
    some (0, q12.2)
  else
    (fX12_takesCol q12.2 a0 (q12.2 a0 19)).bind fun q27 =>
    if q27.1 = 0 then
      some (0, q27.2)
    else
      if q27.2 a0 12 = 3 then
        (fX12_isIn q27.2 (q27.2 a0 15) 60 62).bind fun r56 =>
        if r56 = 0 then
          fX12_readCheck_b62 q27.2 a0
        else
          (aput q27.2 (q27.2 a0 7) (w32 (124 + v5)) (q27.2 a0 15)).bind fun h80 =>
          (fX12_next h80 a0).bind fun h82 =>
          (aput h82 (h82 a0 7) (w32 (136 + v5)) (-1)).bind fun h95 =>
          if h95 a0 12 = 2 then
            (fX12_takes h95 a0 0 99).bind fun q108 =>
            if q108.1 = 0 then
              some (0, q108.2)
            else
              (aput q108.2 (q108.2 a0 7) (w32 (130 + v5)) (q108.2 a0 19)).bind fun h129 =>
              fX12_readCheck_b188 h129 a0 v5 (q12.2 a0 19) (q27.2 a0 19)
          else
            (aget h95 (h95 a0 7) (w32 (4 + (q12.2 a0 19)))).bind fun v147 =>
            (fX12_looksAt h95 a0 (w32 (24 + (w32 (4 * (q12.2 a0 19))))) v147).bind fun q148 =>
            if q148.1 = 0 then
              some (0, q148.2)
            else
              if q148.2 a0 19 = q27.2 a0 19 then
                (fX12_bad q148.2 a0 3).bind fun q166 =>
                some (q166.1, q166.2)
              else
                (aput q148.2 (q148.2 a0 7) (w32 (136 + v5)) (q148.2 a0 19)).bind fun h183 =>
                (fX12_next h183 a0).bind fun h185 =>
                fX12_readCheck_b188 h185 a0 v5 (q12.2 a0 19) (q27.2 a0 19)
      else
        fX12_readCheck_b62 q27.2 a0
section M_X12_readCheck
variable {p : Program} {l : Launch} {e : Env} {R : Room} {s : State} {m : MethodId} {args : Array Value} {below : List Frame} {meth : Method} {c : Code} {D : va_G} {G : gG} {A : Nat → Prop} {H0 : Heap} {n0 : Int} {x : Option vV × hH} {h : hH}
set_option maxRecDepth 100000 in
set_option maxHeartbeats 4000000 in
theorem oX12_readCheck_b247 {a0 : Int} {K : Int × hH → Prop} (k0 : ∀ r, K (r) → x = (some (2, r.1), r.2)) {r : Int × hH} (hr : fX12_readCheck_b247 h a0 = some r) (hk : K r) : Wq p l e R s m args below meth c D G A H0 true n0 M_X12_readCheck x 0 0 247 [(0, (22, a0))] [] h := by
  unfold fX12_readCheck_b247 at hr
  refine r_aload_n dX12_readCheck_247 rfl 0 rfl (nl rfl) ?_
  refine r_get 12 7 (o := a0) (w := (50, h a0 7)) (T := TX12) (ref := "FollowingRefsModel") rfl (by decide) rfl (by decide) inlX12 (wsl_7 _ (List.mem_of_getElem? (i := 9) rfl)) rfl dX12_readCheck_248 rfl ?_
  refine r_iconst dX12_readCheck_251 (by decide) ?_
  refine r_dup2 dX12_readCheck_252 (Nat.ne_of_beq_eq_false rfl) (Nat.ne_of_beq_eq_false rfl) ?_
  obtain ⟨v253, hg253, hr⟩ := bnd hr
  refine r_iald dX12_readCheck_253 hg253 ?_
  refine r_iconst dX12_readCheck_254 (by decide) ?_
  refine r_iadd dX12_readCheck_255 ?_
  obtain ⟨h256, hg256, hr⟩ := bnd hr
  refine r_iast dX12_readCheck_256 hg256 ?_
  refine r_iconst dX12_readCheck_257 (by decide) ?_
  refine r_scast 0 (v := (0, 1)) (w := (2, 1)) rfl cz (fun _ => Or.inr rfl) (st' := [(2, 1)]) rfl ?_
  obtain rfl := Option.some.inj hr
  exact r_ret dX12_readCheck_258 rfl (Or.inr ⟨rfl, rfl⟩) (k0 _ hk) ⟨rfl, rfl⟩
set_option maxRecDepth 100000 in
set_option maxHeartbeats 4000000 in
theorem oX12_readCheck_b232 {a0 s0 s1 s2 : Int} {K : Int × hH → Prop} (k0 : ∀ r, K (r) → x = (some (2, r.1), r.2)) {r : Int × hH} (hr : fX12_readCheck_b232 h a0 s0 s1 s2 = some r) (hk : K r) : Wq p l e R s m args below meth c D G A H0 true n0 M_X12_readCheck x 0 0 232 [(0, (22, a0))] [(2, s0), (0, s1), (50, s2)] h := by
  unfold fX12_readCheck_b232 at hr
  refine r_scast 0 (v := (2, s0)) (w := (0, s0)) rfl zc hTz (st' := [(0, s0), (0, s1), (50, s2)]) rfl ?_
  obtain ⟨h232, hg232, hr⟩ := bnd hr
  refine r_iast dX12_readCheck_232 hg232 ?_
  refine r_aload_n dX12_readCheck_233 rfl 0 rfl (nl rfl) ?_
  refine r_ldc2' (v := 1818326117) dX12_readCheck_234 (by decide) (wsl_9 _ (List.mem_of_getElem? (i := 1) rfl)) ?_
  obtain ⟨r237, hg237, hr⟩ := bnd hr
  refine k_V (ci := 12) (o := a0) (T := TX12) (as := [(1, 1818326117)]) (rest := []) (X := (some (2, r237), h232)) (oX12_isWord hg237) gX12_isWord rfl (by decide) rfl (wsl_24 _ (List.mem_of_getElem? (i := 22) rfl)) rfl dX12_readCheck_237 rfl ?_
  refine r_scast 0 (v := (2, r237)) (w := (0, r237)) rfl zc hTz (st' := [(0, r237)]) rfl ?_
  refine r_if_eq dX12_readCheck_240 (tgt := 247) (by decide) (fun hc => ?_) (fun hc => ?_)
  · have hr := ifp hr hc
    exact oX12_readCheck_b247 (K := K) (fun r z => k0 r z) hr hk
  · have hr := ifn hr hc
    refine r_aload_n dX12_readCheck_243 rfl 0 rfl (nl rfl) ?_
    obtain ⟨h244, hg244, hr⟩ := bnd hr
    refine k_V (ci := 12) (o := a0) (T := TX12) (as := []) (rest := []) (X := (none, h244)) (oX12_next hg244) gX12_next rfl (by decide) rfl (wsl_24 _ (List.mem_of_getElem? (i := 0) rfl)) rfl dX12_readCheck_244 rfl ?_
    exact oX12_readCheck_b247 (K := K) (fun r z => k0 r z) hr hk
set_option maxRecDepth 100000 in
set_option maxHeartbeats 4000000 in
theorem oX12_readCheck_b188 {a0 l1 l2 l3 : Int} {K : Int × hH → Prop} (k0 : ∀ r, K (r) → x = (some (2, r.1), r.2)) {r : Int × hH} (hr : fX12_readCheck_b188 h a0 l1 l2 l3 = some r) (hk : K r) : Wq p l e R s m args below meth c D G A H0 true n0 M_X12_readCheck x 0 0 188 [(0, (22, a0)), (1, (0, l1)), (2, (0, l2)), (3, (0, l3))] [] h := by
  unfold fX12_readCheck_b188 at hr
  refine r_aload_n dX12_readCheck_188 rfl 0 rfl (nl rfl) ?_
  refine r_get 12 7 (o := a0) (w := (50, h a0 7)) (T := TX12) (ref := "FollowingRefsModel") rfl (by decide) rfl (by decide) inlX12 (wsl_7 _ (List.mem_of_getElem? (i := 9) rfl)) rfl dX12_readCheck_189 rfl ?_
  refine r_bipush dX12_readCheck_192 (by decide) (by decide) ?_
  refine r_iload_n dX12_readCheck_194 rfl 1 rfl (Or.inl rfl) ?_
  refine r_iadd dX12_readCheck_195 ?_
  refine r_iload_n dX12_readCheck_196 rfl 2 rfl (Or.inl rfl) ?_
  obtain ⟨h197, hg197, hr⟩ := bnd hr
  refine r_iast dX12_readCheck_197 hg197 ?_
  refine r_aload_n dX12_readCheck_198 rfl 0 rfl (nl rfl) ?_
  refine r_get 12 7 (o := a0) (w := (50, h197 a0 7)) (T := TX12) (ref := "FollowingRefsModel") rfl (by decide) rfl (by decide) inlX12 (wsl_7 _ (List.mem_of_getElem? (i := 9) rfl)) rfl dX12_readCheck_199 rfl ?_
  refine r_bipush dX12_readCheck_202 (by decide) (by decide) ?_
  refine r_iload_n dX12_readCheck_204 rfl 1 rfl (Or.inl rfl) ?_
  refine r_iadd dX12_readCheck_205 ?_
  refine r_iload_n dX12_readCheck_206 rfl 3 rfl (Or.inl rfl) ?_
  obtain ⟨h207, hg207, hr⟩ := bnd hr
  refine r_iast dX12_readCheck_207 hg207 ?_
  refine r_aload_n dX12_readCheck_208 rfl 0 rfl (nl rfl) ?_
  refine r_get 12 7 (o := a0) (w := (50, h207 a0 7)) (T := TX12) (ref := "FollowingRefsModel") rfl (by decide) rfl (by decide) inlX12 (wsl_7 _ (List.mem_of_getElem? (i := 9) rfl)) rfl dX12_readCheck_209 rfl ?_
  refine r_sipush dX12_readCheck_212 (by decide) (by decide) ?_
  refine r_iload_n dX12_readCheck_215 rfl 1 rfl (Or.inl rfl) ?_
  refine r_iadd dX12_readCheck_216 ?_
  refine r_aload_n dX12_readCheck_217 rfl 0 rfl (nl rfl) ?_
  refine r_ldc2' (v := 1818326117) dX12_readCheck_218 (by decide) (wsl_9 _ (List.mem_of_getElem? (i := 1) rfl)) ?_
  obtain ⟨r221, hg221, hr⟩ := bnd hr
  refine k_V (ci := 12) (o := a0) (T := TX12) (as := [(1, 1818326117)]) (rest := [(0, w32 (142 + l1)), (50, h207 a0 7)]) (X := (some (2, r221), h207)) (oX12_isWord hg221) gX12_isWord rfl (by decide) rfl (wsl_24 _ (List.mem_of_getElem? (i := 22) rfl)) rfl dX12_readCheck_221 rfl ?_
  refine r_scast 0 (v := (2, r221)) (w := (0, r221)) rfl zc hTz (st' := [(0, r221), (0, w32 (142 + l1)), (50, h207 a0 7)]) rfl ?_
  refine r_if_eq dX12_readCheck_224 (tgt := 231) (by decide) (fun hc => ?_) (fun hc => ?_)
  · have hr := ifp hr hc
    refine r_iconst dX12_readCheck_231 (by decide) ?_
    refine r_sub [0] (lv' := [(0, (22, a0))]) rfl ?_
    refine r_scast 0 (v := (0, 0)) (w := (2, 0)) rfl cz (fun _ => Or.inl rfl) (st' := [(2, 0), (0, w32 (142 + l1)), (50, h207 a0 7)]) rfl ?_
    exact oX12_readCheck_b232 (K := K) (fun r z => k0 r z) hr hk
  · have hr := ifn hr hc
    refine r_iconst dX12_readCheck_227 (by decide) ?_
    refine r_goto dX12_readCheck_228 (tgt := 232) (by decide) ?_
    refine r_sub [0] (lv' := [(0, (22, a0))]) rfl ?_
    refine r_scast 0 (v := (0, 1)) (w := (2, 1)) rfl cz (fun _ => Or.inr rfl) (st' := [(2, 1), (0, w32 (142 + l1)), (50, h207 a0 7)]) rfl ?_
    exact oX12_readCheck_b232 (K := K) (fun r z => k0 r z) hr hk
set_option maxRecDepth 100000 in
set_option maxHeartbeats 4000000 in
theorem oX12_readCheck_b62 {a0 : Int} {K : Int × hH → Prop} (k0 : ∀ r, K (r) → x = (some (2, r.1), r.2)) {r : Int × hH} (hr : fX12_readCheck_b62 h a0 = some r) (hk : K r) : Wq p l e R s m args below meth c D G A H0 true n0 M_X12_readCheck x 0 0 62 [(0, (22, a0))] [] h := by
  unfold fX12_readCheck_b62 at hr
  refine r_aload_n dX12_readCheck_62 rfl 0 rfl (nl rfl) ?_
  refine r_iconst dX12_readCheck_63 (by decide) ?_
  obtain ⟨q64, hg64, hr⟩ := bnd hr
  refine k_V (ci := 12) (o := a0) (T := TX12) (as := [(0, 1)]) (rest := []) (X := (some (2, q64.1), q64.2)) (oX12_bad hg64) gX12_bad rfl (by decide) rfl (wsl_25 _ (List.mem_of_getElem? (i := 6) rfl)) rfl dX12_readCheck_64 rfl ?_
  obtain rfl := Option.some.inj hr
  exact r_ret dX12_readCheck_67 rfl (Or.inr ⟨rfl, rfl⟩) (k0 _ hk) ⟨rfl, rfl⟩
set_option maxRecDepth 100000 in
set_option maxHeartbeats 4000000 in
theorem oX12_readCheck_b0 {a0 : Int} {K : Int × hH → Prop} (k0 : ∀ r, K (r) → x = (some (2, r.1), r.2)) {r : Int × hH} (hr : fX12_readCheck h a0 = some r) (hk : K r) : Wq p l e R s m args below meth c D G A H0 true n0 M_X12_readCheck x 0 0 0 [(0, (22, a0))] [] h := by
  unfold fX12_readCheck at hr
  refine r_aload_n dX12_readCheck_0 rfl 0 rfl (nl rfl) ?_
  refine r_get 12 7 (o := a0) (w := (50, h a0 7)) (T := TX12) (ref := "FollowingRefsModel") rfl (by decide) rfl (by decide) inlX12 (wsl_7 _ (List.mem_of_getElem? (i := 9) rfl)) rfl dX12_readCheck_1 rfl ?_
  refine r_iconst dX12_readCheck_4 (by decide) ?_
  obtain ⟨v5, hg5, hr⟩ := bnd hr
  refine r_iald dX12_readCheck_5 hg5 ?_
  refine r_istore_n dX12_readCheck_6 rfl (Or.inl rfl) (by decide) (lv' := [(1, (0, v5)), (0, (22, a0))]) rfl ?_
  refine r_aload_n dX12_readCheck_7 rfl 1 rfl (nl rfl) ?_
  obtain ⟨h8, hg8, hr⟩ := bnd hr
  refine k_V (ci := 12) (o := a0) (T := TX12) (as := []) (rest := []) (X := (none, h8)) (oX12_next hg8) gX12_next rfl (by decide) rfl (wsl_24 _ (List.mem_of_getElem? (i := 0) rfl)) rfl dX12_readCheck_8 rfl ?_
  refine r_aload_n dX12_readCheck_11 rfl 1 rfl (nl rfl) ?_
  obtain ⟨q12, hg12, hr⟩ := bnd hr
  refine k_V (ci := 12) (o := a0) (T := TX12) (as := []) (rest := []) (X := (some (2, q12.1), q12.2)) (oX12_takesTable hg12) gX12_takesTable rfl (by decide) rfl (wsl_26 _ (List.mem_of_getElem? (i := 5) rfl)) rfl dX12_readCheck_12 rfl ?_
  refine r_scast 0 (v := (2, q12.1)) (w := (0, q12.1)) rfl zc hTz (st' := [(0, q12.1)]) rfl ?_
  refine r_if_ne dX12_readCheck_15 (tgt := 20) (by decide) (fun hc => ?_) (fun hc => ?_)
  · have hr := ifn hr hc
    refine r_aload_n dX12_readCheck_20 rfl 1 rfl (nl rfl) ?_
    refine r_get 12 19 (o := a0) (w := (0, q12.2 a0 19)) (T := TX12) (ref := "FollowingRefsModel") rfl (by decide) rfl (by decide) inlX12 (wsl_26 _ (List.mem_of_getElem? (i := 2) rfl)) rfl dX12_readCheck_21 rfl ?_
    refine r_istore_n dX12_readCheck_24 rfl (Or.inl rfl) (by decide) (lv' := [(2, (0, q12.2 a0 19)), (1, (0, v5)), (0, (22, a0))]) rfl ?_
    refine r_aload_n dX12_readCheck_25 rfl 2 rfl (nl rfl) ?_
    refine r_iload_n dX12_readCheck_26 rfl 0 rfl (Or.inl rfl) ?_
    obtain ⟨q27, hg27, hr⟩ := bnd hr
    refine k_V (ci := 12) (o := a0) (T := TX12) (as := [(0, q12.2 a0 19)]) (rest := []) (X := (some (2, q27.1), q27.2)) (oX12_takesCol hg27) gX12_takesCol rfl (by decide) rfl (wsl_26 _ (List.mem_of_getElem? (i := 21) rfl)) rfl dX12_readCheck_27 rfl ?_
    refine r_scast 0 (v := (2, q27.1)) (w := (0, q27.1)) rfl zc hTz (st' := [(0, q27.1)]) rfl ?_
    refine r_if_ne dX12_readCheck_30 (tgt := 35) (by decide) (fun hc => ?_) (fun hc => ?_)
    · have hr := ifn hr hc
      refine r_aload_n dX12_readCheck_35 rfl 2 rfl (nl rfl) ?_
      refine r_get 12 19 (o := a0) (w := (0, q27.2 a0 19)) (T := TX12) (ref := "FollowingRefsModel") rfl (by decide) rfl (by decide) inlX12 (wsl_26 _ (List.mem_of_getElem? (i := 2) rfl)) rfl dX12_readCheck_36 rfl ?_
      refine r_istore_n dX12_readCheck_39 rfl (Or.inl rfl) (by decide) (lv' := [(3, (0, q27.2 a0 19)), (2, (0, q12.2 a0 19)), (1, (0, v5)), (0, (22, a0))]) rfl ?_
      refine r_aload_n dX12_readCheck_40 rfl 3 rfl (nl rfl) ?_
      refine r_get 12 12 (o := a0) (w := (0, q27.2 a0 12)) (T := TX12) (ref := "FollowingRefsModel") rfl (by decide) rfl (by decide) inlX12 (wsl_23 _ (List.mem_of_getElem? (i := 14) rfl)) rfl dX12_readCheck_41 rfl ?_
      refine r_iconst dX12_readCheck_44 (by decide) ?_
      refine r_icmp_ne dX12_readCheck_45 (tgt := 62) (by decide) (fun hc => ?_) (fun hc => ?_)
      · have hr := ifn hr hc
        refine r_sub [3] (lv' := [(0, (22, a0))]) rfl ?_
        exact oX12_readCheck_b62 (K := K) (fun r z => k0 r z) hr hk
      · have hr := ifp hr hc
        refine r_aload_n dX12_readCheck_48 rfl 3 rfl (nl rfl) ?_
        refine r_get 12 15 (o := a0) (w := (0, q27.2 a0 15)) (T := TX12) (ref := "FollowingRefsModel") rfl (by decide) rfl (by decide) inlX12 (wsl_24 _ (List.mem_of_getElem? (i := 6) rfl)) rfl dX12_readCheck_49 rfl ?_
        refine r_bipush dX12_readCheck_52 (by decide) (by decide) ?_
        refine r_bipush dX12_readCheck_54 (by decide) (by decide) ?_
        obtain ⟨r56, hg56, hr⟩ := bnd hr
        refine k_S (as := [(0, q27.2 a0 15), (0, 60), (0, 62)]) (rest := []) (X := (some (2, r56), q27.2)) (oX12_isIn hg56) gX12_isIn rfl (wsl_28 _ (List.mem_of_getElem? (i := 1) rfl)) rfl dX12_readCheck_56 rfl ?_
        refine r_scast 0 (v := (2, r56)) (w := (0, r56)) rfl zc hTz (st' := [(0, r56)]) rfl ?_
        refine r_if_ne dX12_readCheck_59 (tgt := 68) (by decide) (fun hc => ?_) (fun hc => ?_)
        · have hr := ifn hr hc
          refine r_aload_n dX12_readCheck_68 rfl 3 rfl (nl rfl) ?_
          refine r_get 12 7 (o := a0) (w := (50, q27.2 a0 7)) (T := TX12) (ref := "FollowingRefsModel") rfl (by decide) rfl (by decide) inlX12 (wsl_7 _ (List.mem_of_getElem? (i := 9) rfl)) rfl dX12_readCheck_69 rfl ?_
          refine r_bipush dX12_readCheck_72 (by decide) (by decide) ?_
          refine r_iload_n dX12_readCheck_74 rfl 2 rfl (Or.inl rfl) ?_
          refine r_iadd dX12_readCheck_75 ?_
          refine r_aload_n dX12_readCheck_76 rfl 3 rfl (nl rfl) ?_
          refine r_get 12 15 (o := a0) (w := (0, q27.2 a0 15)) (T := TX12) (ref := "FollowingRefsModel") rfl (by decide) rfl (by decide) inlX12 (wsl_24 _ (List.mem_of_getElem? (i := 6) rfl)) rfl dX12_readCheck_77 rfl ?_
          obtain ⟨h80, hg80, hr⟩ := bnd hr
          refine r_iast dX12_readCheck_80 hg80 ?_
          refine r_aload_n dX12_readCheck_81 rfl 3 rfl (nl rfl) ?_
          obtain ⟨h82, hg82, hr⟩ := bnd hr
          refine k_V (ci := 12) (o := a0) (T := TX12) (as := []) (rest := []) (X := (none, h82)) (oX12_next hg82) gX12_next rfl (by decide) rfl (wsl_24 _ (List.mem_of_getElem? (i := 0) rfl)) rfl dX12_readCheck_82 rfl ?_
          refine r_aload_n dX12_readCheck_85 rfl 3 rfl (nl rfl) ?_
          refine r_get 12 7 (o := a0) (w := (50, h82 a0 7)) (T := TX12) (ref := "FollowingRefsModel") rfl (by decide) rfl (by decide) inlX12 (wsl_7 _ (List.mem_of_getElem? (i := 9) rfl)) rfl dX12_readCheck_86 rfl ?_
          refine r_sipush dX12_readCheck_89 (by decide) (by decide) ?_
          refine r_iload_n dX12_readCheck_92 rfl 2 rfl (Or.inl rfl) ?_
          refine r_iadd dX12_readCheck_93 ?_
          refine r_iconst dX12_readCheck_94 (by decide) ?_
          obtain ⟨h95, hg95, hr⟩ := bnd hr
          refine r_iast dX12_readCheck_95 hg95 ?_
          refine r_aload_n dX12_readCheck_96 rfl 3 rfl (nl rfl) ?_
          refine r_get 12 12 (o := a0) (w := (0, h95 a0 12)) (T := TX12) (ref := "FollowingRefsModel") rfl (by decide) rfl (by decide) inlX12 (wsl_23 _ (List.mem_of_getElem? (i := 14) rfl)) rfl dX12_readCheck_97 rfl ?_
          refine r_iconst dX12_readCheck_100 (by decide) ?_
          refine r_icmp_ne dX12_readCheck_101 (tgt := 133) (by decide) (fun hc => ?_) (fun hc => ?_)
          · have hr := ifn hr hc
            refine r_aload_n dX12_readCheck_133 rfl 3 rfl (nl rfl) ?_
            refine r_bipush dX12_readCheck_134 (by decide) (by decide) ?_
            refine r_iconst dX12_readCheck_136 (by decide) ?_
            refine r_iload_n dX12_readCheck_137 rfl 1 rfl (Or.inl rfl) ?_
            refine r_imul dX12_readCheck_138 ?_
            refine r_iadd dX12_readCheck_139 ?_
            refine r_aload_n dX12_readCheck_140 rfl 3 rfl (nl rfl) ?_
            refine r_get 12 7 (o := a0) (w := (50, h95 a0 7)) (T := TX12) (ref := "FollowingRefsModel") rfl (by decide) rfl (by decide) inlX12 (wsl_7 _ (List.mem_of_getElem? (i := 9) rfl)) rfl dX12_readCheck_141 rfl ?_
            refine r_iconst dX12_readCheck_144 (by decide) ?_
            refine r_iload_n dX12_readCheck_145 rfl 1 rfl (Or.inl rfl) ?_
            refine r_iadd dX12_readCheck_146 ?_
            obtain ⟨v147, hg147, hr⟩ := bnd hr
            refine r_iald dX12_readCheck_147 hg147 ?_
            obtain ⟨q148, hg148, hr⟩ := bnd hr
            refine k_V (ci := 12) (o := a0) (T := TX12) (as := [(0, w32 (24 + (w32 (4 * (q12.2 a0 19))))), (0, v147)]) (rest := []) (X := (some (2, q148.1), q148.2)) (oX12_looksAt hg148) gX12_looksAt rfl (by decide) rfl (wsl_26 _ (List.mem_of_getElem? (i := 13) rfl)) rfl dX12_readCheck_148 rfl ?_
            refine r_scast 0 (v := (2, q148.1)) (w := (0, q148.1)) rfl zc hTz (st' := [(0, q148.1)]) rfl ?_
            refine r_if_ne dX12_readCheck_151 (tgt := 156) (by decide) (fun hc => ?_) (fun hc => ?_)
            · have hr := ifn hr hc
              refine r_aload_n dX12_readCheck_156 rfl 3 rfl (nl rfl) ?_
              refine r_get 12 19 (o := a0) (w := (0, q148.2 a0 19)) (T := TX12) (ref := "FollowingRefsModel") rfl (by decide) rfl (by decide) inlX12 (wsl_26 _ (List.mem_of_getElem? (i := 2) rfl)) rfl dX12_readCheck_157 rfl ?_
              refine r_iload_n dX12_readCheck_160 rfl 0 rfl (Or.inl rfl) ?_
              refine r_icmp_ne dX12_readCheck_161 (tgt := 170) (by decide) (fun hc => ?_) (fun hc => ?_)
              · have hr := ifn hr hc
                refine r_aload_n dX12_readCheck_170 rfl 3 rfl (nl rfl) ?_
                refine r_get 12 7 (o := a0) (w := (50, q148.2 a0 7)) (T := TX12) (ref := "FollowingRefsModel") rfl (by decide) rfl (by decide) inlX12 (wsl_7 _ (List.mem_of_getElem? (i := 9) rfl)) rfl dX12_readCheck_171 rfl ?_
                refine r_sipush dX12_readCheck_174 (by decide) (by decide) ?_
                refine r_iload_n dX12_readCheck_177 rfl 2 rfl (Or.inl rfl) ?_
                refine r_iadd dX12_readCheck_178 ?_
                refine r_aload_n dX12_readCheck_179 rfl 3 rfl (nl rfl) ?_
                refine r_get 12 19 (o := a0) (w := (0, q148.2 a0 19)) (T := TX12) (ref := "FollowingRefsModel") rfl (by decide) rfl (by decide) inlX12 (wsl_26 _ (List.mem_of_getElem? (i := 2) rfl)) rfl dX12_readCheck_180 rfl ?_
                obtain ⟨h183, hg183, hr⟩ := bnd hr
                refine r_iast dX12_readCheck_183 hg183 ?_
                refine r_aload_n dX12_readCheck_184 rfl 3 rfl (nl rfl) ?_
                obtain ⟨h185, hg185, hr⟩ := bnd hr
                refine k_V (ci := 12) (o := a0) (T := TX12) (as := []) (rest := []) (X := (none, h185)) (oX12_next hg185) gX12_next rfl (by decide) rfl (wsl_24 _ (List.mem_of_getElem? (i := 0) rfl)) rfl dX12_readCheck_185 rfl ?_
                refine r_sub [3, 2, 1, 0] (lv' := [(0, (22, a0)), (1, (0, v5)), (2, (0, q12.2 a0 19)), (3, (0, q27.2 a0 19))]) rfl ?_
                exact oX12_readCheck_b188 (K := K) (fun r z => k0 r z) hr hk
              · have hr := ifp hr hc
                refine r_aload_n dX12_readCheck_164 rfl 3 rfl (nl rfl) ?_
                refine r_iconst dX12_readCheck_165 (by decide) ?_
                obtain ⟨q166, hg166, hr⟩ := bnd hr
                refine k_V (ci := 12) (o := a0) (T := TX12) (as := [(0, 3)]) (rest := []) (X := (some (2, q166.1), q166.2)) (oX12_bad hg166) gX12_bad rfl (by decide) rfl (wsl_25 _ (List.mem_of_getElem? (i := 6) rfl)) rfl dX12_readCheck_166 rfl ?_
                obtain rfl := Option.some.inj hr
                exact r_ret dX12_readCheck_169 rfl (Or.inr ⟨rfl, rfl⟩) (k0 _ hk) ⟨rfl, rfl⟩
            · have hr := ifp hr hc
              refine r_iconst dX12_readCheck_154 (by decide) ?_
              refine r_scast 0 (v := (0, 0)) (w := (2, 0)) rfl cz (fun _ => Or.inl rfl) (st' := [(2, 0)]) rfl ?_
              obtain rfl := Option.some.inj hr
              exact r_ret dX12_readCheck_155 rfl (Or.inr ⟨rfl, rfl⟩) (k0 _ hk) ⟨rfl, rfl⟩
          · have hr := ifp hr hc
            refine r_aload_n dX12_readCheck_104 rfl 3 rfl (nl rfl) ?_
            refine r_iconst dX12_readCheck_105 (by decide) ?_
            refine r_bipush dX12_readCheck_106 (by decide) (by decide) ?_
            obtain ⟨q108, hg108, hr⟩ := bnd hr
            refine k_V (ci := 12) (o := a0) (T := TX12) (as := [(0, 0), (0, 99)]) (rest := []) (X := (some (2, q108.1), q108.2)) (oX12_takes hg108) gX12_takes rfl (by decide) rfl (wsl_27 _ (List.mem_of_getElem? (i := 21) rfl)) rfl dX12_readCheck_108 rfl ?_
            refine r_scast 0 (v := (2, q108.1)) (w := (0, q108.1)) rfl zc hTz (st' := [(0, q108.1)]) rfl ?_
            refine r_if_ne dX12_readCheck_111 (tgt := 116) (by decide) (fun hc => ?_) (fun hc => ?_)
            · have hr := ifn hr hc
              refine r_aload_n dX12_readCheck_116 rfl 3 rfl (nl rfl) ?_
              refine r_get 12 7 (o := a0) (w := (50, q108.2 a0 7)) (T := TX12) (ref := "FollowingRefsModel") rfl (by decide) rfl (by decide) inlX12 (wsl_7 _ (List.mem_of_getElem? (i := 9) rfl)) rfl dX12_readCheck_117 rfl ?_
              refine r_sipush dX12_readCheck_120 (by decide) (by decide) ?_
              refine r_iload_n dX12_readCheck_123 rfl 2 rfl (Or.inl rfl) ?_
              refine r_iadd dX12_readCheck_124 ?_
              refine r_aload_n dX12_readCheck_125 rfl 3 rfl (nl rfl) ?_
              refine r_get 12 19 (o := a0) (w := (0, q108.2 a0 19)) (T := TX12) (ref := "FollowingRefsModel") rfl (by decide) rfl (by decide) inlX12 (wsl_26 _ (List.mem_of_getElem? (i := 2) rfl)) rfl dX12_readCheck_126 rfl ?_
              obtain ⟨h129, hg129, hr⟩ := bnd hr
              refine r_iast dX12_readCheck_129 hg129 ?_
              refine r_goto dX12_readCheck_130 (tgt := 188) (by decide) ?_
              refine r_sub [3, 2, 1, 0] (lv' := [(0, (22, a0)), (1, (0, v5)), (2, (0, q12.2 a0 19)), (3, (0, q27.2 a0 19))]) rfl ?_
              exact oX12_readCheck_b188 (K := K) (fun r z => k0 r z) hr hk
            · have hr := ifp hr hc
              refine r_iconst dX12_readCheck_114 (by decide) ?_
              refine r_scast 0 (v := (0, 0)) (w := (2, 0)) rfl cz (fun _ => Or.inl rfl) (st' := [(2, 0)]) rfl ?_
              obtain rfl := Option.some.inj hr
              exact r_ret dX12_readCheck_115 rfl (Or.inr ⟨rfl, rfl⟩) (k0 _ hk) ⟨rfl, rfl⟩
        · have hr := ifp hr hc
          refine r_sub [3] (lv' := [(0, (22, a0))]) rfl ?_
          exact oX12_readCheck_b62 (K := K) (fun r z => k0 r z) hr hk
    · have hr := ifp hr hc
      refine r_iconst dX12_readCheck_33 (by decide) ?_
      refine r_scast 0 (v := (0, 0)) (w := (2, 0)) rfl cz (fun _ => Or.inl rfl) (st' := [(2, 0)]) rfl ?_
      obtain rfl := Option.some.inj hr
      exact r_ret dX12_readCheck_34 rfl (Or.inr ⟨rfl, rfl⟩) (k0 _ hk) ⟨rfl, rfl⟩
  · have hr := ifp hr hc
    refine r_iconst dX12_readCheck_18 (by decide) ?_
    refine r_scast 0 (v := (0, 0)) (w := (2, 0)) rfl cz (fun _ => Or.inl rfl) (st' := [(2, 0)]) rfl ?_
    obtain rfl := Option.some.inj hr
    exact r_ret dX12_readCheck_19 rfl (Or.inr ⟨rfl, rfl⟩) (k0 _ hk) ⟨rfl, rfl⟩
end M_X12_readCheck
theorem oX12_readCheck {l : Launch} {D : va_G} {G : gG} {h : hH} {a0 : Int} {r : Int × hH} (hr : fX12_readCheck h a0 = some r) : Ctr l D G true yX12_readCheck M_X12_readCheck [(22, a0)] h (some (2, r.1), r.2) :=
  Ctr_of (by decide) rfl (fun z => by cases z) (nl rfl) (fun {p e R s m args below meth c A H0} => by
    exact oX12_readCheck_b0 (K := fun z9 => z9 = r) (fun r9 z => by rw [z]) hr rfl)
/-! X12_readLine -/
theorem dX12_readLine_0 : decode cX12_readLine 0 = .ok (.aload_n 0, 1) := by decide +kernel
theorem dX12_readLine_1 : decode cX12_readLine 1 = .ok (.ldc2_w 129, 3) := by decide +kernel
theorem dX12_readLine_4 : decode cX12_readLine 4 = .ok (.invokevirtual 248, 3) := by decide +kernel
theorem dX12_readLine_7 : decode cX12_readLine 7 = .ok (.ifCond .eq 8, 3) := by decide +kernel
theorem dX12_readLine_10 : decode cX12_readLine 10 = .ok (.aload_n 0, 1) := by decide +kernel
theorem dX12_readLine_11 : decode cX12_readLine 11 = .ok (.invokevirtual 252, 3) := by decide +kernel
theorem dX12_readLine_14 : decode cX12_readLine 14 = .ok (.ireturn, 1) := by decide +kernel
theorem dX12_readLine_15 : decode cX12_readLine 15 = .ok (.aload_n 0, 1) := by decide +kernel
theorem dX12_readLine_16 : decode cX12_readLine 16 = .ok (.ldc2_w 131, 3) := by decide +kernel
theorem dX12_readLine_19 : decode cX12_readLine 19 = .ok (.invokevirtual 248, 3) := by decide +kernel
theorem dX12_readLine_22 : decode cX12_readLine 22 = .ok (.ifCond .eq 27, 3) := by decide +kernel
theorem dX12_readLine_25 : decode cX12_readLine 25 = .ok (.aload_n 0, 1) := by decide +kernel
theorem dX12_readLine_26 : decode cX12_readLine 26 = .ok (.getfield 37, 3) := by decide +kernel
theorem dX12_readLine_29 : decode cX12_readLine 29 = .ok (.iconst 1, 1) := by decide +kernel
theorem dX12_readLine_30 : decode cX12_readLine 30 = .ok (.iaload, 1) := by decide +kernel
theorem dX12_readLine_31 : decode cX12_readLine 31 = .ok (.bipush 6, 2) := by decide +kernel
theorem dX12_readLine_33 : decode cX12_readLine 33 = .ok (.if_icmp .ne 11, 3) := by decide +kernel
theorem dX12_readLine_36 : decode cX12_readLine 36 = .ok (.aload_n 0, 1) := by decide +kernel
theorem dX12_readLine_37 : decode cX12_readLine 37 = .ok (.iconst 4, 1) := by decide +kernel
theorem dX12_readLine_38 : decode cX12_readLine 38 = .ok (.invokevirtual 223, 3) := by decide +kernel
theorem dX12_readLine_41 : decode cX12_readLine 41 = .ok (.goto 7, 3) := by decide +kernel
theorem dX12_readLine_44 : decode cX12_readLine 44 = .ok (.aload_n 0, 1) := by decide +kernel
theorem dX12_readLine_45 : decode cX12_readLine 45 = .ok (.invokevirtual 255, 3) := by decide +kernel
theorem dX12_readLine_48 : decode cX12_readLine 48 = .ok (.ireturn, 1) := by decide +kernel
theorem dX12_readLine_49 : decode cX12_readLine 49 = .ok (.aload_n 0, 1) := by decide +kernel
theorem dX12_readLine_50 : decode cX12_readLine 50 = .ok (.ldc2_w 133, 3) := by decide +kernel
theorem dX12_readLine_53 : decode cX12_readLine 53 = .ok (.invokevirtual 248, 3) := by decide +kernel
theorem dX12_readLine_56 : decode cX12_readLine 56 = .ok (.ifCond .eq 27, 3) := by decide +kernel
theorem dX12_readLine_59 : decode cX12_readLine 59 = .ok (.aload_n 0, 1) := by decide +kernel
theorem dX12_readLine_60 : decode cX12_readLine 60 = .ok (.getfield 37, 3) := by decide +kernel
theorem dX12_readLine_63 : decode cX12_readLine 63 = .ok (.iconst 2, 1) := by decide +kernel
theorem dX12_readLine_64 : decode cX12_readLine 64 = .ok (.iaload, 1) := by decide +kernel
theorem dX12_readLine_65 : decode cX12_readLine 65 = .ok (.bipush 6, 2) := by decide +kernel
theorem dX12_readLine_67 : decode cX12_readLine 67 = .ok (.if_icmp .ne 11, 3) := by decide +kernel
theorem dX12_readLine_70 : decode cX12_readLine 70 = .ok (.aload_n 0, 1) := by decide +kernel
theorem dX12_readLine_71 : decode cX12_readLine 71 = .ok (.iconst 4, 1) := by decide +kernel
theorem dX12_readLine_72 : decode cX12_readLine 72 = .ok (.invokevirtual 223, 3) := by decide +kernel
theorem dX12_readLine_75 : decode cX12_readLine 75 = .ok (.goto 7, 3) := by decide +kernel
theorem dX12_readLine_78 : decode cX12_readLine 78 = .ok (.aload_n 0, 1) := by decide +kernel
theorem dX12_readLine_79 : decode cX12_readLine 79 = .ok (.invokevirtual 258, 3) := by decide +kernel
theorem dX12_readLine_82 : decode cX12_readLine 82 = .ok (.ireturn, 1) := by decide +kernel
theorem dX12_readLine_83 : decode cX12_readLine 83 = .ok (.aload_n 0, 1) := by decide +kernel
theorem dX12_readLine_84 : decode cX12_readLine 84 = .ok (.ldc2_w 149, 3) := by decide +kernel
theorem dX12_readLine_87 : decode cX12_readLine 87 = .ok (.invokevirtual 248, 3) := by decide +kernel
theorem dX12_readLine_90 : decode cX12_readLine 90 = .ok (.ifCond .eq 8, 3) := by decide +kernel
theorem dX12_readLine_93 : decode cX12_readLine 93 = .ok (.aload_n 0, 1) := by decide +kernel
theorem dX12_readLine_94 : decode cX12_readLine 94 = .ok (.invokevirtual 261, 3) := by decide +kernel
theorem dX12_readLine_97 : decode cX12_readLine 97 = .ok (.ireturn, 1) := by decide +kernel
theorem dX12_readLine_98 : decode cX12_readLine 98 = .ok (.aload_n 0, 1) := by decide +kernel
theorem dX12_readLine_99 : decode cX12_readLine 99 = .ok (.ldc2_w 151, 3) := by decide +kernel
theorem dX12_readLine_102 : decode cX12_readLine 102 = .ok (.invokevirtual 248, 3) := by decide +kernel
theorem dX12_readLine_105 : decode cX12_readLine 105 = .ok (.ifCond .eq 8, 3) := by decide +kernel
theorem dX12_readLine_108 : decode cX12_readLine 108 = .ok (.aload_n 0, 1) := by decide +kernel
theorem dX12_readLine_109 : decode cX12_readLine 109 = .ok (.invokevirtual 264, 3) := by decide +kernel
theorem dX12_readLine_112 : decode cX12_readLine 112 = .ok (.ireturn, 1) := by decide +kernel
theorem dX12_readLine_113 : decode cX12_readLine 113 = .ok (.aload_n 0, 1) := by decide +kernel
theorem dX12_readLine_114 : decode cX12_readLine 114 = .ok (.ldc2_w 153, 3) := by decide +kernel
theorem dX12_readLine_117 : decode cX12_readLine 117 = .ok (.invokevirtual 248, 3) := by decide +kernel
theorem dX12_readLine_120 : decode cX12_readLine 120 = .ok (.ifCond .eq 27, 3) := by decide +kernel
theorem dX12_readLine_123 : decode cX12_readLine 123 = .ok (.aload_n 0, 1) := by decide +kernel
theorem dX12_readLine_124 : decode cX12_readLine 124 = .ok (.getfield 37, 3) := by decide +kernel
theorem dX12_readLine_127 : decode cX12_readLine 127 = .ok (.iconst 3, 1) := by decide +kernel
theorem dX12_readLine_128 : decode cX12_readLine 128 = .ok (.iaload, 1) := by decide +kernel
theorem dX12_readLine_129 : decode cX12_readLine 129 = .ok (.bipush 6, 2) := by decide +kernel
theorem dX12_readLine_131 : decode cX12_readLine 131 = .ok (.if_icmp .ne 11, 3) := by decide +kernel
theorem dX12_readLine_134 : decode cX12_readLine 134 = .ok (.aload_n 0, 1) := by decide +kernel
theorem dX12_readLine_135 : decode cX12_readLine 135 = .ok (.iconst 4, 1) := by decide +kernel
theorem dX12_readLine_136 : decode cX12_readLine 136 = .ok (.invokevirtual 223, 3) := by decide +kernel
theorem dX12_readLine_139 : decode cX12_readLine 139 = .ok (.goto 7, 3) := by decide +kernel
theorem dX12_readLine_142 : decode cX12_readLine 142 = .ok (.aload_n 0, 1) := by decide +kernel
theorem dX12_readLine_143 : decode cX12_readLine 143 = .ok (.invokevirtual 267, 3) := by decide +kernel
theorem dX12_readLine_146 : decode cX12_readLine 146 = .ok (.ireturn, 1) := by decide +kernel
theorem dX12_readLine_147 : decode cX12_readLine 147 = .ok (.aload_n 0, 1) := by decide +kernel
theorem dX12_readLine_148 : decode cX12_readLine 148 = .ok (.iconst 1, 1) := by decide +kernel
theorem dX12_readLine_149 : decode cX12_readLine 149 = .ok (.invokevirtual 223, 3) := by decide +kernel
theorem dX12_readLine_152 : decode cX12_readLine 152 = .ok (.ireturn, 1) := by decide +kernel
abbrev M_X12_readLine : mM := (cX12_readLine, 1, RX12, some .boolean, false, 6, 138, 0, 0)
theorem gX12_readLine : cI yX12_readLine M_X12_readLine 0 := ⟨(wsl_24 _ (List.mem_of_getElem? (i := 19) rfl)), (wsl_24 _ (List.mem_of_getElem? (i := 20) rfl)), (wsl_1 _ (List.mem_of_getElem? (i := 5) rfl)), (wsl_24 _ (List.mem_of_getElem? (i := 21) rfl)), by decide +kernel⟩
noncomputable def fX12_readLine (h : hH) (a0 : Int) : Option (Int × hH) :=
  (fX12_isWord h a0 499850046565).bind fun r4 =>
  if r4 = 0 then
    (fX12_isWord h a0 7038329).bind fun r19 =>
    if r19 = 0 then
      (fX12_isWord h a0 7497062).bind fun r53 =>
      if r53 = 0 then
        (fX12_isWord h a0 28258988067220596).bind fun r87 =>
        if r87 = 0 then
          (fX12_isWord h a0 1852138852).bind fun r102 =>
          if r102 = 0 then
            (fX12_isWord h a0 426953237355).bind fun r117 =>
            if r117 = 0 then
              (fX12_bad h a0 1).bind fun q149 =>
              some (q149.1, q149.2)
            else
              (aget h (h a0 7) 3).bind fun v128 =>
              if v128 = 6 then
                (fX12_bad h a0 4).bind fun q136 =>
                some (q136.1, q136.2)
              else
                (fX12_readCheck h a0).bind fun q143 =>
                some (q143.1, q143.2)
          else
            (fX12_readNeed h a0).bind fun q109 =>
            some (q109.1, q109.2)
        else
          (fX12_readDefault h a0).bind fun q94 =>
          some (q94.1, q94.2)
      else
        (aget h (h a0 7) 2).bind fun v64 =>
        if v64 = 6 then
          (fX12_bad h a0 4).bind fun q72 =>
          some (q72.1, q72.2)
        else
          (fX12_readRef h a0).bind fun q79 =>
          some (q79.1, q79.2)
    else
      (aget h (h a0 7) 1).bind fun v30 =>
      if v30 = 6 then
        (fX12_bad h a0 4).bind fun q38 =>
        some (q38.1, q38.2)
      else
        (fX12_readKey h a0).bind fun q45 =>
        some (q45.1, q45.2)
  else
    (fX12_readTable h a0).bind fun q11 =>
    some (q11.1, q11.2)
section M_X12_readLine
variable {p : Program} {l : Launch} {e : Env} {R : Room} {s : State} {m : MethodId} {args : Array Value} {below : List Frame} {meth : Method} {c : Code} {D : va_G} {G : gG} {A : Nat → Prop} {H0 : Heap} {n0 : Int} {x : Option vV × hH} {h : hH}
set_option maxRecDepth 100000 in
set_option maxHeartbeats 4000000 in
theorem oX12_readLine_b0 {a0 : Int} {K : Int × hH → Prop} (k0 : ∀ r, K (r) → x = (some (2, r.1), r.2)) {r : Int × hH} (hr : fX12_readLine h a0 = some r) (hk : K r) : Wq p l e R s m args below meth c D G A H0 true n0 M_X12_readLine x 0 0 0 [(0, (22, a0))] [] h := by
  unfold fX12_readLine at hr
  refine r_aload_n dX12_readLine_0 rfl 0 rfl (nl rfl) ?_
  refine r_ldc2' (v := 499850046565) dX12_readLine_1 (by decide) (wsl_8 _ (List.mem_of_getElem? (i := 16) rfl)) ?_
  obtain ⟨r4, hg4, hr⟩ := bnd hr
  refine k_V (ci := 12) (o := a0) (T := TX12) (as := [(1, 499850046565)]) (rest := []) (X := (some (2, r4), h)) (oX12_isWord hg4) gX12_isWord rfl (by decide) rfl (wsl_24 _ (List.mem_of_getElem? (i := 22) rfl)) rfl dX12_readLine_4 rfl ?_
  refine r_scast 0 (v := (2, r4)) (w := (0, r4)) rfl zc hTz (st' := [(0, r4)]) rfl ?_
  refine r_if_eq dX12_readLine_7 (tgt := 15) (by decide) (fun hc => ?_) (fun hc => ?_)
  · have hr := ifp hr hc
    refine r_aload_n dX12_readLine_15 rfl 0 rfl (nl rfl) ?_
    refine r_ldc2' (v := 7038329) dX12_readLine_16 (by decide) (wsl_8 _ (List.mem_of_getElem? (i := 17) rfl)) ?_
    obtain ⟨r19, hg19, hr⟩ := bnd hr
    refine k_V (ci := 12) (o := a0) (T := TX12) (as := [(1, 7038329)]) (rest := []) (X := (some (2, r19), h)) (oX12_isWord hg19) gX12_isWord rfl (by decide) rfl (wsl_24 _ (List.mem_of_getElem? (i := 22) rfl)) rfl dX12_readLine_19 rfl ?_
    refine r_scast 0 (v := (2, r19)) (w := (0, r19)) rfl zc hTz (st' := [(0, r19)]) rfl ?_
    refine r_if_eq dX12_readLine_22 (tgt := 49) (by decide) (fun hc => ?_) (fun hc => ?_)
    · have hr := ifp hr hc
      refine r_aload_n dX12_readLine_49 rfl 0 rfl (nl rfl) ?_
      refine r_ldc2' (v := 7497062) dX12_readLine_50 (by decide) (wsl_8 _ (List.mem_of_getElem? (i := 18) rfl)) ?_
      obtain ⟨r53, hg53, hr⟩ := bnd hr
      refine k_V (ci := 12) (o := a0) (T := TX12) (as := [(1, 7497062)]) (rest := []) (X := (some (2, r53), h)) (oX12_isWord hg53) gX12_isWord rfl (by decide) rfl (wsl_24 _ (List.mem_of_getElem? (i := 22) rfl)) rfl dX12_readLine_53 rfl ?_
      refine r_scast 0 (v := (2, r53)) (w := (0, r53)) rfl zc hTz (st' := [(0, r53)]) rfl ?_
      refine r_if_eq dX12_readLine_56 (tgt := 83) (by decide) (fun hc => ?_) (fun hc => ?_)
      · have hr := ifp hr hc
        refine r_aload_n dX12_readLine_83 rfl 0 rfl (nl rfl) ?_
        refine r_ldc2' (v := 28258988067220596) dX12_readLine_84 (by decide) (wsl_9 _ (List.mem_of_getElem? (i := 2) rfl)) ?_
        obtain ⟨r87, hg87, hr⟩ := bnd hr
        refine k_V (ci := 12) (o := a0) (T := TX12) (as := [(1, 28258988067220596)]) (rest := []) (X := (some (2, r87), h)) (oX12_isWord hg87) gX12_isWord rfl (by decide) rfl (wsl_24 _ (List.mem_of_getElem? (i := 22) rfl)) rfl dX12_readLine_87 rfl ?_
        refine r_scast 0 (v := (2, r87)) (w := (0, r87)) rfl zc hTz (st' := [(0, r87)]) rfl ?_
        refine r_if_eq dX12_readLine_90 (tgt := 98) (by decide) (fun hc => ?_) (fun hc => ?_)
        · have hr := ifp hr hc
          refine r_aload_n dX12_readLine_98 rfl 0 rfl (nl rfl) ?_
          refine r_ldc2' (v := 1852138852) dX12_readLine_99 (by decide) (wsl_9 _ (List.mem_of_getElem? (i := 3) rfl)) ?_
          obtain ⟨r102, hg102, hr⟩ := bnd hr
          refine k_V (ci := 12) (o := a0) (T := TX12) (as := [(1, 1852138852)]) (rest := []) (X := (some (2, r102), h)) (oX12_isWord hg102) gX12_isWord rfl (by decide) rfl (wsl_24 _ (List.mem_of_getElem? (i := 22) rfl)) rfl dX12_readLine_102 rfl ?_
          refine r_scast 0 (v := (2, r102)) (w := (0, r102)) rfl zc hTz (st' := [(0, r102)]) rfl ?_
          refine r_if_eq dX12_readLine_105 (tgt := 113) (by decide) (fun hc => ?_) (fun hc => ?_)
          · have hr := ifp hr hc
            refine r_aload_n dX12_readLine_113 rfl 0 rfl (nl rfl) ?_
            refine r_ldc2' (v := 426953237355) dX12_readLine_114 (by decide) (wsl_9 _ (List.mem_of_getElem? (i := 4) rfl)) ?_
            obtain ⟨r117, hg117, hr⟩ := bnd hr
            refine k_V (ci := 12) (o := a0) (T := TX12) (as := [(1, 426953237355)]) (rest := []) (X := (some (2, r117), h)) (oX12_isWord hg117) gX12_isWord rfl (by decide) rfl (wsl_24 _ (List.mem_of_getElem? (i := 22) rfl)) rfl dX12_readLine_117 rfl ?_
            refine r_scast 0 (v := (2, r117)) (w := (0, r117)) rfl zc hTz (st' := [(0, r117)]) rfl ?_
            refine r_if_eq dX12_readLine_120 (tgt := 147) (by decide) (fun hc => ?_) (fun hc => ?_)
            · have hr := ifp hr hc
              refine r_aload_n dX12_readLine_147 rfl 0 rfl (nl rfl) ?_
              refine r_iconst dX12_readLine_148 (by decide) ?_
              obtain ⟨q149, hg149, hr⟩ := bnd hr
              refine k_V (ci := 12) (o := a0) (T := TX12) (as := [(0, 1)]) (rest := []) (X := (some (2, q149.1), q149.2)) (oX12_bad hg149) gX12_bad rfl (by decide) rfl (wsl_25 _ (List.mem_of_getElem? (i := 6) rfl)) rfl dX12_readLine_149 rfl ?_
              obtain rfl := Option.some.inj hr
              exact r_ret dX12_readLine_152 rfl (Or.inr ⟨rfl, rfl⟩) (k0 _ hk) ⟨rfl, rfl⟩
            · have hr := ifn hr hc
              refine r_aload_n dX12_readLine_123 rfl 0 rfl (nl rfl) ?_
              refine r_get 12 7 (o := a0) (w := (50, h a0 7)) (T := TX12) (ref := "FollowingRefsModel") rfl (by decide) rfl (by decide) inlX12 (wsl_7 _ (List.mem_of_getElem? (i := 9) rfl)) rfl dX12_readLine_124 rfl ?_
              refine r_iconst dX12_readLine_127 (by decide) ?_
              obtain ⟨v128, hg128, hr⟩ := bnd hr
              refine r_iald dX12_readLine_128 hg128 ?_
              refine r_bipush dX12_readLine_129 (by decide) (by decide) ?_
              refine r_icmp_ne dX12_readLine_131 (tgt := 142) (by decide) (fun hc => ?_) (fun hc => ?_)
              · have hr := ifn hr hc
                refine r_aload_n dX12_readLine_142 rfl 0 rfl (nl rfl) ?_
                obtain ⟨q143, hg143, hr⟩ := bnd hr
                refine k_V (ci := 12) (o := a0) (T := TX12) (as := []) (rest := []) (X := (some (2, q143.1), q143.2)) (oX12_readCheck hg143) gX12_readCheck rfl (by decide) rfl (wsl_28 _ (List.mem_of_getElem? (i := 8) rfl)) rfl dX12_readLine_143 rfl ?_
                obtain rfl := Option.some.inj hr
                exact r_ret dX12_readLine_146 rfl (Or.inr ⟨rfl, rfl⟩) (k0 _ hk) ⟨rfl, rfl⟩
              · have hr := ifp hr hc
                refine r_aload_n dX12_readLine_134 rfl 0 rfl (nl rfl) ?_
                refine r_iconst dX12_readLine_135 (by decide) ?_
                obtain ⟨q136, hg136, hr⟩ := bnd hr
                refine k_V (ci := 12) (o := a0) (T := TX12) (as := [(0, 4)]) (rest := []) (X := (some (2, q136.1), q136.2)) (oX12_bad hg136) gX12_bad rfl (by decide) rfl (wsl_25 _ (List.mem_of_getElem? (i := 6) rfl)) rfl dX12_readLine_136 rfl ?_
                refine r_goto dX12_readLine_139 (tgt := 146) (by decide) ?_
                obtain rfl := Option.some.inj hr
                exact r_ret dX12_readLine_146 rfl (Or.inr ⟨rfl, rfl⟩) (k0 _ hk) ⟨rfl, rfl⟩
          · have hr := ifn hr hc
            refine r_aload_n dX12_readLine_108 rfl 0 rfl (nl rfl) ?_
            obtain ⟨q109, hg109, hr⟩ := bnd hr
            refine k_V (ci := 12) (o := a0) (T := TX12) (as := []) (rest := []) (X := (some (2, q109.1), q109.2)) (oX12_readNeed hg109) gX12_readNeed rfl (by decide) rfl (wsl_28 _ (List.mem_of_getElem? (i := 4) rfl)) rfl dX12_readLine_109 rfl ?_
            obtain rfl := Option.some.inj hr
            exact r_ret dX12_readLine_112 rfl (Or.inr ⟨rfl, rfl⟩) (k0 _ hk) ⟨rfl, rfl⟩
        · have hr := ifn hr hc
          refine r_aload_n dX12_readLine_93 rfl 0 rfl (nl rfl) ?_
          obtain ⟨q94, hg94, hr⟩ := bnd hr
          refine k_V (ci := 12) (o := a0) (T := TX12) (as := []) (rest := []) (X := (some (2, q94.1), q94.2)) (oX12_readDefault hg94) gX12_readDefault rfl (by decide) rfl (wsl_27 _ (List.mem_of_getElem? (i := 17) rfl)) rfl dX12_readLine_94 rfl ?_
          obtain rfl := Option.some.inj hr
          exact r_ret dX12_readLine_97 rfl (Or.inr ⟨rfl, rfl⟩) (k0 _ hk) ⟨rfl, rfl⟩
      · have hr := ifn hr hc
        refine r_aload_n dX12_readLine_59 rfl 0 rfl (nl rfl) ?_
        refine r_get 12 7 (o := a0) (w := (50, h a0 7)) (T := TX12) (ref := "FollowingRefsModel") rfl (by decide) rfl (by decide) inlX12 (wsl_7 _ (List.mem_of_getElem? (i := 9) rfl)) rfl dX12_readLine_60 rfl ?_
        refine r_iconst dX12_readLine_63 (by decide) ?_
        obtain ⟨v64, hg64, hr⟩ := bnd hr
        refine r_iald dX12_readLine_64 hg64 ?_
        refine r_bipush dX12_readLine_65 (by decide) (by decide) ?_
        refine r_icmp_ne dX12_readLine_67 (tgt := 78) (by decide) (fun hc => ?_) (fun hc => ?_)
        · have hr := ifn hr hc
          refine r_aload_n dX12_readLine_78 rfl 0 rfl (nl rfl) ?_
          obtain ⟨q79, hg79, hr⟩ := bnd hr
          refine k_V (ci := 12) (o := a0) (T := TX12) (as := []) (rest := []) (X := (some (2, q79.1), q79.2)) (oX12_readRef hg79) gX12_readRef rfl (by decide) rfl (wsl_27 _ (List.mem_of_getElem? (i := 1) rfl)) rfl dX12_readLine_79 rfl ?_
          obtain rfl := Option.some.inj hr
          exact r_ret dX12_readLine_82 rfl (Or.inr ⟨rfl, rfl⟩) (k0 _ hk) ⟨rfl, rfl⟩
        · have hr := ifp hr hc
          refine r_aload_n dX12_readLine_70 rfl 0 rfl (nl rfl) ?_
          refine r_iconst dX12_readLine_71 (by decide) ?_
          obtain ⟨q72, hg72, hr⟩ := bnd hr
          refine k_V (ci := 12) (o := a0) (T := TX12) (as := [(0, 4)]) (rest := []) (X := (some (2, q72.1), q72.2)) (oX12_bad hg72) gX12_bad rfl (by decide) rfl (wsl_25 _ (List.mem_of_getElem? (i := 6) rfl)) rfl dX12_readLine_72 rfl ?_
          refine r_goto dX12_readLine_75 (tgt := 82) (by decide) ?_
          obtain rfl := Option.some.inj hr
          exact r_ret dX12_readLine_82 rfl (Or.inr ⟨rfl, rfl⟩) (k0 _ hk) ⟨rfl, rfl⟩
    · have hr := ifn hr hc
      refine r_aload_n dX12_readLine_25 rfl 0 rfl (nl rfl) ?_
      refine r_get 12 7 (o := a0) (w := (50, h a0 7)) (T := TX12) (ref := "FollowingRefsModel") rfl (by decide) rfl (by decide) inlX12 (wsl_7 _ (List.mem_of_getElem? (i := 9) rfl)) rfl dX12_readLine_26 rfl ?_
      refine r_iconst dX12_readLine_29 (by decide) ?_
      obtain ⟨v30, hg30, hr⟩ := bnd hr
      refine r_iald dX12_readLine_30 hg30 ?_
      refine r_bipush dX12_readLine_31 (by decide) (by decide) ?_
      refine r_icmp_ne dX12_readLine_33 (tgt := 44) (by decide) (fun hc => ?_) (fun hc => ?_)
      · have hr := ifn hr hc
        refine r_aload_n dX12_readLine_44 rfl 0 rfl (nl rfl) ?_
        obtain ⟨q45, hg45, hr⟩ := bnd hr
        refine k_V (ci := 12) (o := a0) (T := TX12) (as := []) (rest := []) (X := (some (2, q45.1), q45.2)) (oX12_readKey hg45) gX12_readKey rfl (by decide) rfl (wsl_25 _ (List.mem_of_getElem? (i := 22) rfl)) rfl dX12_readLine_45 rfl ?_
        obtain rfl := Option.some.inj hr
        exact r_ret dX12_readLine_48 rfl (Or.inr ⟨rfl, rfl⟩) (k0 _ hk) ⟨rfl, rfl⟩
      · have hr := ifp hr hc
        refine r_aload_n dX12_readLine_36 rfl 0 rfl (nl rfl) ?_
        refine r_iconst dX12_readLine_37 (by decide) ?_
        obtain ⟨q38, hg38, hr⟩ := bnd hr
        refine k_V (ci := 12) (o := a0) (T := TX12) (as := [(0, 4)]) (rest := []) (X := (some (2, q38.1), q38.2)) (oX12_bad hg38) gX12_bad rfl (by decide) rfl (wsl_25 _ (List.mem_of_getElem? (i := 6) rfl)) rfl dX12_readLine_38 rfl ?_
        refine r_goto dX12_readLine_41 (tgt := 48) (by decide) ?_
        obtain rfl := Option.some.inj hr
        exact r_ret dX12_readLine_48 rfl (Or.inr ⟨rfl, rfl⟩) (k0 _ hk) ⟨rfl, rfl⟩
  · have hr := ifn hr hc
    refine r_aload_n dX12_readLine_10 rfl 0 rfl (nl rfl) ?_
    obtain ⟨q11, hg11, hr⟩ := bnd hr
    refine k_V (ci := 12) (o := a0) (T := TX12) (as := []) (rest := []) (X := (some (2, q11.1), q11.2)) (oX12_readTable hg11) gX12_readTable rfl (by decide) rfl (wsl_25 _ (List.mem_of_getElem? (i := 2) rfl)) rfl dX12_readLine_11 rfl ?_
    obtain rfl := Option.some.inj hr
    exact r_ret dX12_readLine_14 rfl (Or.inr ⟨rfl, rfl⟩) (k0 _ hk) ⟨rfl, rfl⟩
end M_X12_readLine
theorem oX12_readLine {l : Launch} {D : va_G} {G : gG} {h : hH} {a0 : Int} {r : Int × hH} (hr : fX12_readLine h a0 = some r) : Ctr l D G true yX12_readLine M_X12_readLine [(22, a0)] h (some (2, r.1), r.2) :=
  Ctr_of (by decide) rfl (fun z => by cases z) (nl rfl) (fun {p e R s m args below meth c A H0} => by
    exact oX12_readLine_b0 (K := fun z9 => z9 = r) (fun r9 z => by rw [z]) hr rfl)
/-! X12_schema -/
theorem dX12_schema_0 : decode cX12_schema 0 = .ok (.aload_n 0, 1) := by decide +kernel
theorem dX12_schema_1 : decode cX12_schema 1 = .ok (.iconst 0, 1) := by decide +kernel
theorem dX12_schema_2 : decode cX12_schema 2 = .ok (.putfield 1, 3) := by decide +kernel
theorem dX12_schema_5 : decode cX12_schema 5 = .ok (.aload_n 0, 1) := by decide +kernel
theorem dX12_schema_6 : decode cX12_schema 6 = .ok (.sipush 900, 3) := by decide +kernel
theorem dX12_schema_9 : decode cX12_schema 9 = .ok (.invokevirtual 302, 3) := by decide +kernel
theorem dX12_schema_12 : decode cX12_schema 12 = .ok (.aload_n 0, 1) := by decide +kernel
theorem dX12_schema_13 : decode cX12_schema 13 = .ok (.iconst 0, 1) := by decide +kernel
theorem dX12_schema_14 : decode cX12_schema 14 = .ok (.putfield 214, 3) := by decide +kernel
theorem dX12_schema_17 : decode cX12_schema 17 = .ok (.aload_n 0, 1) := by decide +kernel
theorem dX12_schema_18 : decode cX12_schema 18 = .ok (.iconst 0, 1) := by decide +kernel
theorem dX12_schema_19 : decode cX12_schema 19 = .ok (.putfield 305, 3) := by decide +kernel
theorem dX12_schema_22 : decode cX12_schema 22 = .ok (.iconst 0, 1) := by decide +kernel
theorem dX12_schema_23 : decode cX12_schema 23 = .ok (.istore_n 1, 1) := by decide +kernel
theorem dX12_schema_24 : decode cX12_schema 24 = .ok (.iload_n 1, 1) := by decide +kernel
theorem dX12_schema_25 : decode cX12_schema 25 = .ok (.sipush 148, 3) := by decide +kernel
theorem dX12_schema_28 : decode cX12_schema 28 = .ok (.if_icmp .ge 32, 3) := by decide +kernel
theorem dX12_schema_31 : decode cX12_schema 31 = .ok (.aload_n 0, 1) := by decide +kernel
theorem dX12_schema_32 : decode cX12_schema 32 = .ok (.getfield 37, 3) := by decide +kernel
theorem dX12_schema_35 : decode cX12_schema 35 = .ok (.iload_n 1, 1) := by decide +kernel
theorem dX12_schema_36 : decode cX12_schema 36 = .ok (.iload_n 1, 1) := by decide +kernel
theorem dX12_schema_37 : decode cX12_schema 37 = .ok (.bipush 8, 2) := by decide +kernel
theorem dX12_schema_39 : decode cX12_schema 39 = .ok (.if_icmp .lt 13, 3) := by decide +kernel
theorem dX12_schema_42 : decode cX12_schema 42 = .ok (.iload_n 1, 1) := by decide +kernel
theorem dX12_schema_43 : decode cX12_schema 43 = .ok (.bipush 24, 2) := by decide +kernel
theorem dX12_schema_45 : decode cX12_schema 45 = .ok (.if_icmp .ge 7, 3) := by decide +kernel
theorem dX12_schema_48 : decode cX12_schema 48 = .ok (.iconst (-1), 1) := by decide +kernel
theorem dX12_schema_49 : decode cX12_schema 49 = .ok (.goto 4, 3) := by decide +kernel
theorem dX12_schema_52 : decode cX12_schema 52 = .ok (.iconst 0, 1) := by decide +kernel
theorem dX12_schema_53 : decode cX12_schema 53 = .ok (.iastore, 1) := by decide +kernel
theorem dX12_schema_54 : decode cX12_schema 54 = .ok (.iinc 1 1, 3) := by decide +kernel
theorem dX12_schema_57 : decode cX12_schema 57 = .ok (.goto (-33), 3) := by decide +kernel
theorem dX12_schema_60 : decode cX12_schema 60 = .ok (.aload_n 0, 1) := by decide +kernel
theorem dX12_schema_61 : decode cX12_schema 61 = .ok (.invokevirtual 226, 3) := by decide +kernel
theorem dX12_schema_64 : decode cX12_schema 64 = .ok (.aload_n 0, 1) := by decide +kernel
theorem dX12_schema_65 : decode cX12_schema 65 = .ok (.getfield 197, 3) := by decide +kernel
theorem dX12_schema_68 : decode cX12_schema 68 = .ok (.ifCond .eq 39, 3) := by decide +kernel
theorem dX12_schema_71 : decode cX12_schema 71 = .ok (.aload_n 0, 1) := by decide +kernel
theorem dX12_schema_72 : decode cX12_schema 72 = .ok (.invokevirtual 308, 3) := by decide +kernel
theorem dX12_schema_75 : decode cX12_schema 75 = .ok (.ifCond .eq 12, 3) := by decide +kernel
theorem dX12_schema_78 : decode cX12_schema 78 = .ok (.aload_n 0, 1) := by decide +kernel
theorem dX12_schema_79 : decode cX12_schema 79 = .ok (.bipush 59, 2) := by decide +kernel
theorem dX12_schema_81 : decode cX12_schema 81 = .ok (.invokevirtual 311, 3) := by decide +kernel
theorem dX12_schema_84 : decode cX12_schema 84 = .ok (.ifCond .ne 10, 3) := by decide +kernel
theorem dX12_schema_87 : decode cX12_schema 87 = .ok (.iconst (-1), 1) := by decide +kernel
theorem dX12_schema_88 : decode cX12_schema 88 = .ok (.aload_n 0, 1) := by decide +kernel
theorem dX12_schema_89 : decode cX12_schema 89 = .ok (.getfield 217, 3) := by decide +kernel
theorem dX12_schema_92 : decode cX12_schema 92 = .ok (.isub, 1) := by decide +kernel
theorem dX12_schema_93 : decode cX12_schema 93 = .ok (.ireturn, 1) := by decide +kernel
theorem dX12_schema_94 : decode cX12_schema 94 = .ok (.aload_n 0, 1) := by decide +kernel
theorem dX12_schema_95 : decode cX12_schema 95 = .ok (.dup, 1) := by decide +kernel
theorem dX12_schema_96 : decode cX12_schema 96 = .ok (.getfield 305, 3) := by decide +kernel
theorem dX12_schema_99 : decode cX12_schema 99 = .ok (.iconst 1, 1) := by decide +kernel
theorem dX12_schema_100 : decode cX12_schema 100 = .ok (.iadd, 1) := by decide +kernel
theorem dX12_schema_101 : decode cX12_schema 101 = .ok (.putfield 305, 3) := by decide +kernel
theorem dX12_schema_104 : decode cX12_schema 104 = .ok (.goto (-40), 3) := by decide +kernel
theorem dX12_schema_107 : decode cX12_schema 107 = .ok (.iconst 0, 1) := by decide +kernel
theorem dX12_schema_108 : decode cX12_schema 108 = .ok (.istore_n 1, 1) := by decide +kernel
theorem dX12_schema_109 : decode cX12_schema 109 = .ok (.iload_n 1, 1) := by decide +kernel
theorem dX12_schema_110 : decode cX12_schema 110 = .ok (.sipush 1420, 3) := by decide +kernel
theorem dX12_schema_113 : decode cX12_schema 113 = .ok (.if_icmp .ge 32, 3) := by decide +kernel
theorem dX12_schema_116 : decode cX12_schema 116 = .ok (.aload_n 0, 1) := by decide +kernel
theorem dX12_schema_117 : decode cX12_schema 117 = .ok (.getfield 33, 3) := by decide +kernel
theorem dX12_schema_120 : decode cX12_schema 120 = .ok (.iload_n 1, 1) := by decide +kernel
theorem dX12_schema_121 : decode cX12_schema 121 = .ok (.iload_n 1, 1) := by decide +kernel
theorem dX12_schema_122 : decode cX12_schema 122 = .ok (.sipush 148, 3) := by decide +kernel
theorem dX12_schema_125 : decode cX12_schema 125 = .ok (.if_icmp .ge 12, 3) := by decide +kernel
theorem dX12_schema_128 : decode cX12_schema 128 = .ok (.aload_n 0, 1) := by decide +kernel
theorem dX12_schema_129 : decode cX12_schema 129 = .ok (.getfield 37, 3) := by decide +kernel
theorem dX12_schema_132 : decode cX12_schema 132 = .ok (.iload_n 1, 1) := by decide +kernel
theorem dX12_schema_133 : decode cX12_schema 133 = .ok (.iaload, 1) := by decide +kernel
theorem dX12_schema_134 : decode cX12_schema 134 = .ok (.goto 4, 3) := by decide +kernel
theorem dX12_schema_137 : decode cX12_schema 137 = .ok (.iconst 0, 1) := by decide +kernel
theorem dX12_schema_138 : decode cX12_schema 138 = .ok (.iastore, 1) := by decide +kernel
theorem dX12_schema_139 : decode cX12_schema 139 = .ok (.iinc 1 1, 3) := by decide +kernel
theorem dX12_schema_142 : decode cX12_schema 142 = .ok (.goto (-33), 3) := by decide +kernel
theorem dX12_schema_145 : decode cX12_schema 145 = .ok (.iconst 0, 1) := by decide +kernel
theorem dX12_schema_146 : decode cX12_schema 146 = .ok (.istore_n 1, 1) := by decide +kernel
theorem dX12_schema_147 : decode cX12_schema 147 = .ok (.iload_n 1, 1) := by decide +kernel
theorem dX12_schema_148 : decode cX12_schema 148 = .ok (.bipush 20, 2) := by decide +kernel
theorem dX12_schema_150 : decode cX12_schema 150 = .ok (.if_icmp .ge 24, 3) := by decide +kernel
theorem dX12_schema_153 : decode cX12_schema 153 = .ok (.aload_n 0, 1) := by decide +kernel
theorem dX12_schema_154 : decode cX12_schema 154 = .ok (.getfield 46, 3) := by decide +kernel
theorem dX12_schema_157 : decode cX12_schema 157 = .ok (.iload_n 1, 1) := by decide +kernel
theorem dX12_schema_158 : decode cX12_schema 158 = .ok (.aload_n 0, 1) := by decide +kernel
theorem dX12_schema_159 : decode cX12_schema 159 = .ok (.getfield 46, 3) := by decide +kernel
theorem dX12_schema_162 : decode cX12_schema 162 = .ok (.bipush 20, 2) := by decide +kernel
theorem dX12_schema_164 : decode cX12_schema 164 = .ok (.iload_n 1, 1) := by decide +kernel
theorem dX12_schema_165 : decode cX12_schema 165 = .ok (.iadd, 1) := by decide +kernel
theorem dX12_schema_166 : decode cX12_schema 166 = .ok (.laload, 1) := by decide +kernel
theorem dX12_schema_167 : decode cX12_schema 167 = .ok (.lastore, 1) := by decide +kernel
theorem dX12_schema_168 : decode cX12_schema 168 = .ok (.iinc 1 1, 3) := by decide +kernel
theorem dX12_schema_171 : decode cX12_schema 171 = .ok (.goto (-24), 3) := by decide +kernel
theorem dX12_schema_174 : decode cX12_schema 174 = .ok (.aload_n 0, 1) := by decide +kernel
theorem dX12_schema_175 : decode cX12_schema 175 = .ok (.iconst 0, 1) := by decide +kernel
theorem dX12_schema_176 : decode cX12_schema 176 = .ok (.putfield 314, 3) := by decide +kernel
theorem dX12_schema_179 : decode cX12_schema 179 = .ok (.aload_n 0, 1) := by decide +kernel
theorem dX12_schema_180 : decode cX12_schema 180 = .ok (.getfield 305, 3) := by decide +kernel
theorem dX12_schema_183 : decode cX12_schema 183 = .ok (.ireturn, 1) := by decide +kernel
abbrev M_X12_schema : mM := (cX12_schema, 2, RX12, some .int, false, 7, 158, 0, 0)
theorem gX12_schema : cI yX12_schema M_X12_schema 0 := ⟨(wsl_23 _ (List.mem_of_getElem? (i := 9) rfl)), (wsl_23 _ (List.mem_of_getElem? (i := 10) rfl)), (wsl_1 _ (List.mem_of_getElem? (i := 5) rfl)), (wsl_23 _ (List.mem_of_getElem? (i := 11) rfl)), by decide +kernel⟩
noncomputable def fX12_schema_b53 (h : hH) (a0 l1 s0 s1 s2 : Int) : Option ((hH × Int) ⊕ (Int × hH)) :=
  (aput h s2 s1 s0).bind fun h53 =>
  some (.inl (h53, w32 (l1 + 1)))
noncomputable def fX12_schema_b52 (h : hH) (a0 l1 s0 s1 : Int) : Option ((hH × Int) ⊕ (Int × hH)) :=
  fX12_schema_b53 h a0 l1 0 s0 s1
noncomputable def fX12_schema_b87 (h : hH) (a0 : Int) : Option (Int × hH) :=
  some (w32 ((-1) - (h a0 17)), h)
noncomputable def fX12_schema_b138 (h : hH) (a0 l1 s0 s1 s2 : Int) : Option ((hH × Int) ⊕ (Int × hH)) :=
  (aput h s2 s1 s0).bind fun h138 =>
  some (.inl (h138, w32 (l1 + 1)))
noncomputable def fX12_schema_s147 (h0 : hH) (a0 : Int) : hH × Int → Option ((hH × Int) ⊕ (Int × hH)) := fun (h, l1) =>
  if l1 < 20 then
    (aget h (h a0 10) (w32 (20 + l1))).bind fun v166 =>
    (aput h (h a0 10) l1 v166).bind fun h167 =>
    some (.inl (h167, w32 (l1 + 1)))
  else
    (pput h a0 44 0).bind fun h176 =>
    some (.inr ((h176 a0 20, h176)))
noncomputable def fX12_schema_s109 (h0 : hH) (a0 : Int) : hH × Int → Option ((hH × Int) ⊕ (Int × hH)) := fun (h, l1) =>
  if l1 < 1420 then
    if l1 < 148 then
      (aget h (h a0 7) l1).bind fun v133 =>
      fX12_schema_b138 h a0 l1 v133 l1 (h a0 6)
    else
      fX12_schema_b138 h a0 l1 0 l1 (h a0 6)
  else
    (lpO (fX12_schema_s147 h a0) (h, 0)).map (fun z9 => .inr (z9))
noncomputable def fX12_schema_s64 (h0 : hH) (a0 : Int) : hH → Option ((hH) ⊕ (Int × hH)) := fun h =>
  if h a0 12 = 0 then
    (lpO (fX12_schema_s109 h a0) (h, 0)).map (fun z9 => .inr (z9))
  else
    (fX12_readLine h a0).bind fun q72 =>
    if q72.1 = 0 then
      (fX12_schema_b87 q72.2 a0).map (fun z9 => .inr (z9))
    else
      (fX12_sign q72.2 a0 59).bind fun q81 =>
      if q81.1 = 0 then
        (fX12_schema_b87 q81.2 a0).map (fun z9 => .inr (z9))
      else
        (pput q81.2 a0 20 (w32 ((q81.2 a0 20) + 1))).bind fun h101 =>
        some (.inl h101)
noncomputable def fX12_schema_s24 (h0 : hH) (a0 : Int) : hH × Int → Option ((hH × Int) ⊕ (Int × hH)) := fun (h, l1) =>
  if l1 < 148 then
    if l1 < 8 then
      fX12_schema_b52 h a0 l1 l1 (h a0 7)
    else
      if l1 < 24 then
        fX12_schema_b53 h a0 l1 (-1) l1 (h a0 7)
      else
        fX12_schema_b52 h a0 l1 l1 (h a0 7)
  else
    (fX12_next h a0).bind fun h61 =>
    (lpO (fX12_schema_s64 h61 a0) h61).map (fun z9 => .inr (z9))
noncomputable def fX12_schema (h : hH) (a0 : Int) : Option (Int × hH) :=
  (pput h a0 0 0).bind fun h2 =>
  (fX12_taken h2 a0 900).bind fun h9 =>
  (pput h9 a0 16 0).bind fun h14 =>
  (pput h14 a0 20 0).bind fun h19 =>
  lpO (fX12_schema_s24 h19 a0) (h19, 0)
section M_X12_schema
variable {p : Program} {l : Launch} {e : Env} {R : Room} {s : State} {m : MethodId} {args : Array Value} {below : List Frame} {meth : Method} {c : Code} {D : va_G} {G : gG} {A : Nat → Prop} {H0 : Heap} {n0 : Int} {x : Option vV × hH} {h : hH}
set_option maxRecDepth 100000 in
set_option maxHeartbeats 4000000 in
theorem oX12_schema_b53 {a0 l1 s0 s1 s2 : Int} {K : (hH × Int) ⊕ (Int × hH) → Prop} (k0 : ∀ r, K (.inr (r)) → x = (some (0, r.1), r.2)) (k1 : ∀ (h : hH) (l1 : Int), K (.inl (h, l1)) → Wq p l e R s m args below meth c D G A H0 true n0 M_X12_schema x 0 0 24 [(0, (22, a0)), (1, (0, l1))] [] h) {r : (hH × Int) ⊕ (Int × hH)} (hr : fX12_schema_b53 h a0 l1 s0 s1 s2 = some r) (hk : K r) : Wq p l e R s m args below meth c D G A H0 true n0 M_X12_schema x 0 0 53 [(0, (22, a0)), (1, (0, l1))] [(0, s0), (0, s1), (50, s2)] h := by
  unfold fX12_schema_b53 at hr
  obtain ⟨h53, hg53, hr⟩ := bnd hr
  refine r_iast dX12_schema_53 hg53 ?_
  refine r_iinc (k := 1) (v := l1) dX12_schema_54 rfl (by decide) (lv' := [(1, (0, w32 (l1 + 1))), (0, (22, a0))]) rfl ?_
  refine r_goto dX12_schema_57 (tgt := 24) (by decide) ?_
  refine r_sub [1, 0] (lv' := [(0, (22, a0)), (1, (0, w32 (l1 + 1)))]) rfl ?_
  obtain rfl := Option.some.inj hr
  exact k1 _ _ hk
set_option maxRecDepth 100000 in
set_option maxHeartbeats 4000000 in
theorem oX12_schema_b52 {a0 l1 s0 s1 : Int} {K : (hH × Int) ⊕ (Int × hH) → Prop} (k0 : ∀ r, K (.inr (r)) → x = (some (0, r.1), r.2)) (k1 : ∀ (h : hH) (l1 : Int), K (.inl (h, l1)) → Wq p l e R s m args below meth c D G A H0 true n0 M_X12_schema x 0 0 24 [(0, (22, a0)), (1, (0, l1))] [] h) {r : (hH × Int) ⊕ (Int × hH)} (hr : fX12_schema_b52 h a0 l1 s0 s1 = some r) (hk : K r) : Wq p l e R s m args below meth c D G A H0 true n0 M_X12_schema x 0 0 52 [(0, (22, a0)), (1, (0, l1))] [(0, s0), (50, s1)] h := by
  unfold fX12_schema_b52 at hr
  refine r_iconst dX12_schema_52 (by decide) ?_
  exact oX12_schema_b53 (K := K) (fun r z => k0 r z) (fun _ _ z => k1 _ _ z) hr hk
set_option maxRecDepth 100000 in
set_option maxHeartbeats 4000000 in
theorem oX12_schema_b87 {a0 : Int} {K : Int × hH → Prop} (k0 : ∀ r, K (r) → x = (some (0, r.1), r.2)) {r : Int × hH} (hr : fX12_schema_b87 h a0 = some r) (hk : K r) : Wq p l e R s m args below meth c D G A H0 true n0 M_X12_schema x 0 0 87 [(0, (22, a0))] [] h := by
  unfold fX12_schema_b87 at hr
  refine r_iconst dX12_schema_87 (by decide) ?_
  refine r_aload_n dX12_schema_88 rfl 0 rfl (nl rfl) ?_
  refine r_get 12 17 (o := a0) (w := (0, h a0 17)) (T := TX12) (ref := "FollowingRefsModel") rfl (by decide) rfl (by decide) inlX12 (wsl_23 _ (List.mem_of_getElem? (i := 15) rfl)) rfl dX12_schema_89 rfl ?_
  refine r_isub dX12_schema_92 ?_
  obtain rfl := Option.some.inj hr
  exact r_ret dX12_schema_93 rfl (Or.inl ⟨rfl, rfl⟩) (k0 _ hk) ⟨rfl, rfl⟩
set_option maxRecDepth 100000 in
set_option maxHeartbeats 4000000 in
theorem oX12_schema_b138 {a0 l1 s0 s1 s2 : Int} {K : (hH × Int) ⊕ (Int × hH) → Prop} (k0 : ∀ r, K (.inr (r)) → x = (some (0, r.1), r.2)) (k1 : ∀ (h : hH) (l1 : Int), K (.inl (h, l1)) → Wq p l e R s m args below meth c D G A H0 true n0 M_X12_schema x 0 0 109 [(0, (22, a0)), (1, (0, l1))] [] h) {r : (hH × Int) ⊕ (Int × hH)} (hr : fX12_schema_b138 h a0 l1 s0 s1 s2 = some r) (hk : K r) : Wq p l e R s m args below meth c D G A H0 true n0 M_X12_schema x 0 0 138 [(0, (22, a0)), (1, (0, l1))] [(0, s0), (0, s1), (50, s2)] h := by
  unfold fX12_schema_b138 at hr
  obtain ⟨h138, hg138, hr⟩ := bnd hr
  refine r_iast dX12_schema_138 hg138 ?_
  refine r_iinc (k := 1) (v := l1) dX12_schema_139 rfl (by decide) (lv' := [(1, (0, w32 (l1 + 1))), (0, (22, a0))]) rfl ?_
  refine r_goto dX12_schema_142 (tgt := 109) (by decide) ?_
  refine r_sub [1, 0] (lv' := [(0, (22, a0)), (1, (0, w32 (l1 + 1)))]) rfl ?_
  obtain rfl := Option.some.inj hr
  exact k1 _ _ hk
set_option maxRecDepth 100000 in
set_option maxHeartbeats 4000000 in
theorem oX12_schema_s147 {h0 : hH} {a0 l1 : Int} {K : (hH × Int) ⊕ (Int × hH) → Prop} (k0 : ∀ r, K (.inr (r)) → x = (some (0, r.1), r.2)) (k1 : ∀ (h : hH) (l1 : Int), K (.inl (h, l1)) → Wq p l e R s m args below meth c D G A H0 true n0 M_X12_schema x 0 0 147 [(0, (22, a0)), (1, (0, l1))] [] h) {r : (hH × Int) ⊕ (Int × hH)} (hr : fX12_schema_s147 h0 a0 (h, l1) = some r) (hk : K r) : Wq p l e R s m args below meth c D G A H0 true n0 M_X12_schema x 0 0 147 [(0, (22, a0)), (1, (0, l1))] [] h := by
  unfold fX12_schema_s147 at hr
  refine r_iload_n dX12_schema_147 rfl 1 rfl (Or.inl rfl) ?_
  refine r_bipush dX12_schema_148 (by decide) (by decide) ?_
  refine r_icmp_ge dX12_schema_150 (tgt := 174) (by decide) (fun hc => ?_) (fun hc => ?_)
  · have hr := ifn hr hc
    refine r_aload_n dX12_schema_174 rfl 0 rfl (nl rfl) ?_
    refine r_iconst dX12_schema_175 (by decide) ?_
    obtain ⟨h176, hg176, hr⟩ := bnd hr
    refine r_put' 12 44 (t := 0) (ref := "FollowingRefsModel") hg176 rfl tyX12 tyX12_ok nmX12 rfl (by decide) rfl (by decide) inlX12 (wsl_23 _ (List.mem_of_getElem? (i := 16) rfl)) rfl rfl (by decide +kernel) (by decide) rfl (Or.inl ⟨rfl, rfl⟩) dX12_schema_176 ?_
    refine r_aload_n dX12_schema_179 rfl 0 rfl (nl rfl) ?_
    refine r_get 12 20 (o := a0) (w := (0, h176 a0 20)) (T := TX12) (ref := "FollowingRefsModel") rfl (by decide) rfl (by decide) inlX12 (wsl_23 _ (List.mem_of_getElem? (i := 13) rfl)) rfl dX12_schema_180 rfl ?_
    obtain rfl := Option.some.inj hr
    exact r_ret dX12_schema_183 rfl (Or.inl ⟨rfl, rfl⟩) (k0 _ hk) ⟨rfl, rfl⟩
  · have hr := ifp hr hc
    refine r_aload_n dX12_schema_153 rfl 0 rfl (nl rfl) ?_
    refine r_get 12 10 (o := a0) (w := (51, h a0 10)) (T := TX12) (ref := "FollowingRefsModel") rfl (by decide) rfl (by decide) inlX12 (wsl_7 _ (List.mem_of_getElem? (i := 12) rfl)) rfl dX12_schema_154 rfl ?_
    refine r_iload_n dX12_schema_157 rfl 1 rfl (Or.inl rfl) ?_
    refine r_aload_n dX12_schema_158 rfl 0 rfl (nl rfl) ?_
    refine r_get 12 10 (o := a0) (w := (51, h a0 10)) (T := TX12) (ref := "FollowingRefsModel") rfl (by decide) rfl (by decide) inlX12 (wsl_7 _ (List.mem_of_getElem? (i := 12) rfl)) rfl dX12_schema_159 rfl ?_
    refine r_bipush dX12_schema_162 (by decide) (by decide) ?_
    refine r_iload_n dX12_schema_164 rfl 1 rfl (Or.inl rfl) ?_
    refine r_iadd dX12_schema_165 ?_
    obtain ⟨v166, hg166, hr⟩ := bnd hr
    refine r_lald dX12_schema_166 hg166 ?_
    obtain ⟨h167, hg167, hr⟩ := bnd hr
    refine r_last dX12_schema_167 hg167 ?_
    refine r_iinc (k := 1) (v := l1) dX12_schema_168 rfl (by decide) (lv' := [(1, (0, w32 (l1 + 1))), (0, (22, a0))]) rfl ?_
    refine r_goto dX12_schema_171 (tgt := 147) (by decide) ?_
    refine r_sub [1, 0] (lv' := [(0, (22, a0)), (1, (0, w32 (l1 + 1)))]) rfl ?_
    obtain rfl := Option.some.inj hr
    exact k1 _ _ hk
set_option maxRecDepth 100000 in
set_option maxHeartbeats 4000000 in
theorem oX12_schema_s109 {h0 : hH} {a0 l1 : Int} {K : (hH × Int) ⊕ (Int × hH) → Prop} (k0 : ∀ r, K (.inr (r)) → x = (some (0, r.1), r.2)) (k1 : ∀ (h : hH) (l1 : Int), K (.inl (h, l1)) → Wq p l e R s m args below meth c D G A H0 true n0 M_X12_schema x 0 0 109 [(0, (22, a0)), (1, (0, l1))] [] h) {r : (hH × Int) ⊕ (Int × hH)} (hr : fX12_schema_s109 h0 a0 (h, l1) = some r) (hk : K r) : Wq p l e R s m args below meth c D G A H0 true n0 M_X12_schema x 0 0 109 [(0, (22, a0)), (1, (0, l1))] [] h := by
  unfold fX12_schema_s109 at hr
  refine r_iload_n dX12_schema_109 rfl 1 rfl (Or.inl rfl) ?_
  refine r_sipush dX12_schema_110 (by decide) (by decide) ?_
  refine r_icmp_ge dX12_schema_113 (tgt := 145) (by decide) (fun hc => ?_) (fun hc => ?_)
  · have hr := ifn hr hc
    refine r_iconst dX12_schema_145 (by decide) ?_
    refine r_istore_n dX12_schema_146 rfl (Or.inl rfl) (by decide) (lv' := [(1, (0, 0)), (0, (22, a0))]) rfl ?_
    refine r_sub [1, 0] (lv' := [(0, (22, a0)), (1, (0, 0))]) rfl ?_
    obtain ⟨r9, hr9, rfl⟩ := mpp hr
    exact lp_ok (w := fun (q : hH × Int) => Wq p l e R s m args below meth c D G A H0 true n0 M_X12_schema x 0 0 147 [(0, (22, a0)), (1, (0, q.2))] [] (q.1)) (K := fun z9 => K (.inr (z9))) (fun ⟨q0, q1⟩ r h1 h2 => oX12_schema_s147 (K := Sum.elim (fun (q : hH × Int) => Wq p l e R s m args below meth c D G A H0 true n0 M_X12_schema x 0 0 147 [(0, (22, a0)), (1, (0, q.2))] [] (q.1)) (fun z9 => K (.inr (z9)))) (fun r z => k0 r z) (fun _ _ z => z) h1 h2) hr9 hk
  · have hr := ifp hr hc
    refine r_aload_n dX12_schema_116 rfl 0 rfl (nl rfl) ?_
    refine r_get 12 6 (o := a0) (w := (50, h a0 6)) (T := TX12) (ref := "FollowingRefsModel") rfl (by decide) rfl (by decide) inlX12 (wsl_7 _ (List.mem_of_getElem? (i := 8) rfl)) rfl dX12_schema_117 rfl ?_
    refine r_iload_n dX12_schema_120 rfl 1 rfl (Or.inl rfl) ?_
    refine r_iload_n dX12_schema_121 rfl 1 rfl (Or.inl rfl) ?_
    refine r_sipush dX12_schema_122 (by decide) (by decide) ?_
    refine r_icmp_ge dX12_schema_125 (tgt := 137) (by decide) (fun hc => ?_) (fun hc => ?_)
    · have hr := ifn hr hc
      refine r_iconst dX12_schema_137 (by decide) ?_
      exact oX12_schema_b138 (K := K) (fun r z => k0 r z) (fun _ _ z => k1 _ _ z) hr hk
    · have hr := ifp hr hc
      refine r_aload_n dX12_schema_128 rfl 0 rfl (nl rfl) ?_
      refine r_get 12 7 (o := a0) (w := (50, h a0 7)) (T := TX12) (ref := "FollowingRefsModel") rfl (by decide) rfl (by decide) inlX12 (wsl_7 _ (List.mem_of_getElem? (i := 9) rfl)) rfl dX12_schema_129 rfl ?_
      refine r_iload_n dX12_schema_132 rfl 1 rfl (Or.inl rfl) ?_
      obtain ⟨v133, hg133, hr⟩ := bnd hr
      refine r_iald dX12_schema_133 hg133 ?_
      refine r_goto dX12_schema_134 (tgt := 138) (by decide) ?_
      exact oX12_schema_b138 (K := K) (fun r z => k0 r z) (fun _ _ z => k1 _ _ z) hr hk
set_option maxRecDepth 100000 in
set_option maxHeartbeats 4000000 in
theorem oX12_schema_s64 {h0 : hH} {a0 : Int} {K : (hH) ⊕ (Int × hH) → Prop} (k0 : ∀ r, K (.inr (r)) → x = (some (0, r.1), r.2)) (k1 : ∀ (h : hH), K (.inl h) → Wq p l e R s m args below meth c D G A H0 true n0 M_X12_schema x 0 0 64 [(0, (22, a0))] [] h) {r : (hH) ⊕ (Int × hH)} (hr : fX12_schema_s64 h0 a0 h = some r) (hk : K r) : Wq p l e R s m args below meth c D G A H0 true n0 M_X12_schema x 0 0 64 [(0, (22, a0))] [] h := by
  unfold fX12_schema_s64 at hr
  refine r_aload_n dX12_schema_64 rfl 0 rfl (nl rfl) ?_
  refine r_get 12 12 (o := a0) (w := (0, h a0 12)) (T := TX12) (ref := "FollowingRefsModel") rfl (by decide) rfl (by decide) inlX12 (wsl_23 _ (List.mem_of_getElem? (i := 14) rfl)) rfl dX12_schema_65 rfl ?_
  refine r_if_eq dX12_schema_68 (tgt := 107) (by decide) (fun hc => ?_) (fun hc => ?_)
  · have hr := ifp hr hc
    refine r_iconst dX12_schema_107 (by decide) ?_
    refine r_istore_n dX12_schema_108 rfl (Or.inl rfl) (by decide) (lv' := [(1, (0, 0)), (0, (22, a0))]) rfl ?_
    refine r_sub [1, 0] (lv' := [(0, (22, a0)), (1, (0, 0))]) rfl ?_
    obtain ⟨r9, hr9, rfl⟩ := mpp hr
    exact lp_ok (w := fun (q : hH × Int) => Wq p l e R s m args below meth c D G A H0 true n0 M_X12_schema x 0 0 109 [(0, (22, a0)), (1, (0, q.2))] [] (q.1)) (K := fun z9 => K (.inr (z9))) (fun ⟨q0, q1⟩ r h1 h2 => oX12_schema_s109 (K := Sum.elim (fun (q : hH × Int) => Wq p l e R s m args below meth c D G A H0 true n0 M_X12_schema x 0 0 109 [(0, (22, a0)), (1, (0, q.2))] [] (q.1)) (fun z9 => K (.inr (z9)))) (fun r z => k0 r z) (fun _ _ z => z) h1 h2) hr9 hk
  · have hr := ifn hr hc
    refine r_aload_n dX12_schema_71 rfl 0 rfl (nl rfl) ?_
    obtain ⟨q72, hg72, hr⟩ := bnd hr
    refine k_V (ci := 12) (o := a0) (T := TX12) (as := []) (rest := []) (X := (some (2, q72.1), q72.2)) (oX12_readLine hg72) gX12_readLine rfl (by decide) rfl (wsl_24 _ (List.mem_of_getElem? (i := 18) rfl)) rfl dX12_schema_72 rfl ?_
    refine r_scast 0 (v := (2, q72.1)) (w := (0, q72.1)) rfl zc hTz (st' := [(0, q72.1)]) rfl ?_
    refine r_if_eq dX12_schema_75 (tgt := 87) (by decide) (fun hc => ?_) (fun hc => ?_)
    · have hr := ifp hr hc
      obtain ⟨r9, hr9, rfl⟩ := mpp hr
      exact oX12_schema_b87 (K := fun z9 => K (.inr (z9))) (fun r z => k0 r z) hr9 hk
    · have hr := ifn hr hc
      refine r_aload_n dX12_schema_78 rfl 0 rfl (nl rfl) ?_
      refine r_bipush dX12_schema_79 (by decide) (by decide) ?_
      obtain ⟨q81, hg81, hr⟩ := bnd hr
      refine k_V (ci := 12) (o := a0) (T := TX12) (as := [(0, 59)]) (rest := []) (X := (some (2, q81.1), q81.2)) (oX12_sign hg81) gX12_sign rfl (by decide) rfl (wsl_28 _ (List.mem_of_getElem? (i := 12) rfl)) rfl dX12_schema_81 rfl ?_
      refine r_scast 0 (v := (2, q81.1)) (w := (0, q81.1)) rfl zc hTz (st' := [(0, q81.1)]) rfl ?_
      refine r_if_ne dX12_schema_84 (tgt := 94) (by decide) (fun hc => ?_) (fun hc => ?_)
      · have hr := ifn hr hc
        refine r_aload_n dX12_schema_94 rfl 0 rfl (nl rfl) ?_
        refine r_dup dX12_schema_95 (Nat.ne_of_beq_eq_false rfl) ?_
        refine r_get 12 20 (o := a0) (w := (0, q81.2 a0 20)) (T := TX12) (ref := "FollowingRefsModel") rfl (by decide) rfl (by decide) inlX12 (wsl_23 _ (List.mem_of_getElem? (i := 13) rfl)) rfl dX12_schema_96 rfl ?_
        refine r_iconst dX12_schema_99 (by decide) ?_
        refine r_iadd dX12_schema_100 ?_
        obtain ⟨h101, hg101, hr⟩ := bnd hr
        refine r_put' 12 20 (t := 0) (ref := "FollowingRefsModel") hg101 rfl tyX12 tyX12_ok nmX12 rfl (by decide) rfl (by decide) inlX12 (wsl_23 _ (List.mem_of_getElem? (i := 13) rfl)) rfl rfl (by decide +kernel) (by decide) rfl (Or.inl ⟨rfl, rfl⟩) dX12_schema_101 ?_
        refine r_goto dX12_schema_104 (tgt := 64) (by decide) ?_
        obtain rfl := Option.some.inj hr
        exact k1 _ hk
      · have hr := ifp hr hc
        obtain ⟨r9, hr9, rfl⟩ := mpp hr
        exact oX12_schema_b87 (K := fun z9 => K (.inr (z9))) (fun r z => k0 r z) hr9 hk
set_option maxRecDepth 100000 in
set_option maxHeartbeats 4000000 in
theorem oX12_schema_s24 {h0 : hH} {a0 l1 : Int} {K : (hH × Int) ⊕ (Int × hH) → Prop} (k0 : ∀ r, K (.inr (r)) → x = (some (0, r.1), r.2)) (k1 : ∀ (h : hH) (l1 : Int), K (.inl (h, l1)) → Wq p l e R s m args below meth c D G A H0 true n0 M_X12_schema x 0 0 24 [(0, (22, a0)), (1, (0, l1))] [] h) {r : (hH × Int) ⊕ (Int × hH)} (hr : fX12_schema_s24 h0 a0 (h, l1) = some r) (hk : K r) : Wq p l e R s m args below meth c D G A H0 true n0 M_X12_schema x 0 0 24 [(0, (22, a0)), (1, (0, l1))] [] h := by
  unfold fX12_schema_s24 at hr
  refine r_iload_n dX12_schema_24 rfl 1 rfl (Or.inl rfl) ?_
  refine r_sipush dX12_schema_25 (by decide) (by decide) ?_
  refine r_icmp_ge dX12_schema_28 (tgt := 60) (by decide) (fun hc => ?_) (fun hc => ?_)
  · have hr := ifn hr hc
    refine r_aload_n dX12_schema_60 rfl 0 rfl (nl rfl) ?_
    obtain ⟨h61, hg61, hr⟩ := bnd hr
    refine k_V (ci := 12) (o := a0) (T := TX12) (as := []) (rest := []) (X := (none, h61)) (oX12_next hg61) gX12_next rfl (by decide) rfl (wsl_24 _ (List.mem_of_getElem? (i := 0) rfl)) rfl dX12_schema_61 rfl ?_
    refine r_sub [0] (lv' := [(0, (22, a0))]) rfl ?_
    obtain ⟨r9, hr9, rfl⟩ := mpp hr
    exact lp_ok (w := fun (q : hH) => Wq p l e R s m args below meth c D G A H0 true n0 M_X12_schema x 0 0 64 [(0, (22, a0))] [] (q)) (K := fun z9 => K (.inr (z9))) (fun q r h1 h2 => oX12_schema_s64 (K := Sum.elim (fun (q : hH) => Wq p l e R s m args below meth c D G A H0 true n0 M_X12_schema x 0 0 64 [(0, (22, a0))] [] (q)) (fun z9 => K (.inr (z9)))) (fun r z => k0 r z) (fun _ z => z) h1 h2) hr9 hk
  · have hr := ifp hr hc
    refine r_aload_n dX12_schema_31 rfl 0 rfl (nl rfl) ?_
    refine r_get 12 7 (o := a0) (w := (50, h a0 7)) (T := TX12) (ref := "FollowingRefsModel") rfl (by decide) rfl (by decide) inlX12 (wsl_7 _ (List.mem_of_getElem? (i := 9) rfl)) rfl dX12_schema_32 rfl ?_
    refine r_iload_n dX12_schema_35 rfl 1 rfl (Or.inl rfl) ?_
    refine r_iload_n dX12_schema_36 rfl 1 rfl (Or.inl rfl) ?_
    refine r_bipush dX12_schema_37 (by decide) (by decide) ?_
    refine r_icmp_lt dX12_schema_39 (tgt := 52) (by decide) (fun hc => ?_) (fun hc => ?_)
    · have hr := ifp hr hc
      exact oX12_schema_b52 (K := K) (fun r z => k0 r z) (fun _ _ z => k1 _ _ z) hr hk
    · have hr := ifn hr hc
      refine r_iload_n dX12_schema_42 rfl 1 rfl (Or.inl rfl) ?_
      refine r_bipush dX12_schema_43 (by decide) (by decide) ?_
      refine r_icmp_ge dX12_schema_45 (tgt := 52) (by decide) (fun hc => ?_) (fun hc => ?_)
      · have hr := ifn hr hc
        exact oX12_schema_b52 (K := K) (fun r z => k0 r z) (fun _ _ z => k1 _ _ z) hr hk
      · have hr := ifp hr hc
        refine r_iconst dX12_schema_48 (by decide) ?_
        refine r_goto dX12_schema_49 (tgt := 53) (by decide) ?_
        exact oX12_schema_b53 (K := K) (fun r z => k0 r z) (fun _ _ z => k1 _ _ z) hr hk
set_option maxRecDepth 100000 in
set_option maxHeartbeats 4000000 in
theorem oX12_schema_b0 {a0 : Int} {K : Int × hH → Prop} (k0 : ∀ r, K (r) → x = (some (0, r.1), r.2)) {r : Int × hH} (hr : fX12_schema h a0 = some r) (hk : K r) : Wq p l e R s m args below meth c D G A H0 true n0 M_X12_schema x 0 0 0 [(0, (22, a0))] [] h := by
  unfold fX12_schema at hr
  refine r_aload_n dX12_schema_0 rfl 0 rfl (nl rfl) ?_
  refine r_iconst dX12_schema_1 (by decide) ?_
  obtain ⟨h2, hg2, hr⟩ := bnd hr
  refine r_put' 12 0 (t := 0) (ref := "FollowingRefsModel") hg2 rfl tyX12 tyX12_ok nmX12 rfl (by decide) rfl (by decide) inlX12 (wsl_10 _ (List.mem_of_getElem? (i := 11) rfl)) rfl rfl (by decide +kernel) (by decide) rfl (Or.inl ⟨rfl, rfl⟩) dX12_schema_2 ?_
  refine r_aload_n dX12_schema_5 rfl 0 rfl (nl rfl) ?_
  refine r_sipush dX12_schema_6 (by decide) (by decide) ?_
  obtain ⟨h9, hg9, hr⟩ := bnd hr
  refine k_V (ci := 12) (o := a0) (T := TX12) (as := [(0, 900)]) (rest := []) (X := (none, h9)) (oX12_taken hg9) gX12_taken rfl (by decide) rfl (wsl_23 _ (List.mem_of_getElem? (i := 17) rfl)) rfl dX12_schema_9 rfl ?_
  refine r_aload_n dX12_schema_12 rfl 0 rfl (nl rfl) ?_
  refine r_iconst dX12_schema_13 (by decide) ?_
  obtain ⟨h14, hg14, hr⟩ := bnd hr
  refine r_put' 12 16 (t := 0) (ref := "FollowingRefsModel") hg14 rfl tyX12 tyX12_ok nmX12 rfl (by decide) rfl (by decide) inlX12 (wsl_23 _ (List.mem_of_getElem? (i := 12) rfl)) rfl rfl (by decide +kernel) (by decide) rfl (Or.inl ⟨rfl, rfl⟩) dX12_schema_14 ?_
  refine r_aload_n dX12_schema_17 rfl 0 rfl (nl rfl) ?_
  refine r_iconst dX12_schema_18 (by decide) ?_
  obtain ⟨h19, hg19, hr⟩ := bnd hr
  refine r_put' 12 20 (t := 0) (ref := "FollowingRefsModel") hg19 rfl tyX12 tyX12_ok nmX12 rfl (by decide) rfl (by decide) inlX12 (wsl_23 _ (List.mem_of_getElem? (i := 13) rfl)) rfl rfl (by decide +kernel) (by decide) rfl (Or.inl ⟨rfl, rfl⟩) dX12_schema_19 ?_
  refine r_iconst dX12_schema_22 (by decide) ?_
  refine r_istore_n dX12_schema_23 rfl (Or.inl rfl) (by decide) (lv' := [(1, (0, 0)), (0, (22, a0))]) rfl ?_
  refine r_sub [1, 0] (lv' := [(0, (22, a0)), (1, (0, 0))]) rfl ?_
  exact lp_ok (w := fun (q : hH × Int) => Wq p l e R s m args below meth c D G A H0 true n0 M_X12_schema x 0 0 24 [(0, (22, a0)), (1, (0, q.2))] [] (q.1)) (K := K) (fun ⟨q0, q1⟩ r h1 h2 => oX12_schema_s24 (K := Sum.elim (fun (q : hH × Int) => Wq p l e R s m args below meth c D G A H0 true n0 M_X12_schema x 0 0 24 [(0, (22, a0)), (1, (0, q.2))] [] (q.1)) (K)) (fun r z => k0 r z) (fun _ _ z => z) h1 h2) hr hk
end M_X12_schema
theorem oX12_schema {l : Launch} {D : va_G} {G : gG} {h : hH} {a0 : Int} {r : Int × hH} (hr : fX12_schema h a0 = some r) : Ctr l D G true yX12_schema M_X12_schema [(22, a0)] h (some (0, r.1), r.2) :=
  Ctr_of (by decide) rfl (fun z => by cases z) (nl rfl) (fun {p e R s m args below meth c A H0} => by
    exact oX12_schema_b0 (K := fun z9 => z9 = r) (fun r9 z => by rw [z]) hr rfl)
/-! X12_fault -/
theorem dX12_fault_0 : decode cX12_fault 0 = .ok (.aload_n 0, 1) := by decide +kernel
theorem dX12_fault_1 : decode cX12_fault 1 = .ok (.iconst 0, 1) := by decide +kernel
theorem dX12_fault_2 : decode cX12_fault 2 = .ok (.putfield 1, 3) := by decide +kernel
theorem dX12_fault_5 : decode cX12_fault 5 = .ok (.aload_n 0, 1) := by decide +kernel
theorem dX12_fault_6 : decode cX12_fault 6 = .ok (.getfield 214, 3) := by decide +kernel
theorem dX12_fault_9 : decode cX12_fault 9 = .ok (.ireturn, 1) := by decide +kernel
abbrev M_X12_fault : mM := (cX12_fault, 1, RX12, some .int, false, 0, 0, 0, 0)
theorem gX12_fault : cI yX12_fault M_X12_fault 0 := ⟨(wsl_28 _ (List.mem_of_getElem? (i := 22) rfl)), (wsl_28 _ (List.mem_of_getElem? (i := 23) rfl)), (wsl_1 _ (List.mem_of_getElem? (i := 5) rfl)), (wsl_29 _ (List.mem_of_getElem? (i := 0) rfl)), by decide +kernel⟩
noncomputable def fX12_fault (h : hH) (a0 : Int) : Option (Int × hH) :=
  (pput h a0 0 0).bind fun h2 =>
  some (h2 a0 16, h2)
section M_X12_fault
variable {p : Program} {l : Launch} {e : Env} {R : Room} {s : State} {m : MethodId} {args : Array Value} {below : List Frame} {meth : Method} {c : Code} {D : va_G} {G : gG} {A : Nat → Prop} {H0 : Heap} {n0 : Int} {x : Option vV × hH} {h : hH}
set_option maxRecDepth 100000 in
set_option maxHeartbeats 4000000 in
theorem oX12_fault_b0 {a0 : Int} {K : Int × hH → Prop} (k0 : ∀ r, K (r) → x = (some (0, r.1), r.2)) {r : Int × hH} (hr : fX12_fault h a0 = some r) (hk : K r) : Wq p l e R s m args below meth c D G A H0 true n0 M_X12_fault x 0 0 0 [(0, (22, a0))] [] h := by
  unfold fX12_fault at hr
  refine r_aload_n dX12_fault_0 rfl 0 rfl (nl rfl) ?_
  refine r_iconst dX12_fault_1 (by decide) ?_
  obtain ⟨h2, hg2, hr⟩ := bnd hr
  refine r_put' 12 0 (t := 0) (ref := "FollowingRefsModel") hg2 rfl tyX12 tyX12_ok nmX12 rfl (by decide) rfl (by decide) inlX12 (wsl_10 _ (List.mem_of_getElem? (i := 11) rfl)) rfl rfl (by decide +kernel) (by decide) rfl (Or.inl ⟨rfl, rfl⟩) dX12_fault_2 ?_
  refine r_aload_n dX12_fault_5 rfl 0 rfl (nl rfl) ?_
  refine r_get 12 16 (o := a0) (w := (0, h2 a0 16)) (T := TX12) (ref := "FollowingRefsModel") rfl (by decide) rfl (by decide) inlX12 (wsl_23 _ (List.mem_of_getElem? (i := 12) rfl)) rfl dX12_fault_6 rfl ?_
  obtain rfl := Option.some.inj hr
  exact r_ret dX12_fault_9 rfl (Or.inl ⟨rfl, rfl⟩) (k0 _ hk) ⟨rfl, rfl⟩
end M_X12_fault
theorem oX12_fault {l : Launch} {D : va_G} {G : gG} {h : hH} {a0 : Int} {r : Int × hH} (hr : fX12_fault h a0 = some r) : Ctr l D G true yX12_fault M_X12_fault [(22, a0)] h (some (0, r.1), r.2) :=
  Ctr_of (by decide) rfl (fun z => by cases z) (nl rfl) (fun {p e R s m args below meth c A H0} => by
    exact oX12_fault_b0 (K := fun z9 => z9 = r) (fun r9 z => by rw [z]) hr rfl)
/-! X12_isTable -/
theorem dX12_isTable_0 : decode cX12_isTable 0 = .ok (.iload_n 1, 1) := by decide +kernel
theorem dX12_isTable_1 : decode cX12_isTable 1 = .ok (.iconst 0, 1) := by decide +kernel
theorem dX12_isTable_2 : decode cX12_isTable 2 = .ok (.aload_n 0, 1) := by decide +kernel
theorem dX12_isTable_3 : decode cX12_isTable 3 = .ok (.getfield 33, 3) := by decide +kernel
theorem dX12_isTable_6 : decode cX12_isTable 6 = .ok (.iconst 0, 1) := by decide +kernel
theorem dX12_isTable_7 : decode cX12_isTable 7 = .ok (.iaload, 1) := by decide +kernel
theorem dX12_isTable_8 : decode cX12_isTable 8 = .ok (.iconst 1, 1) := by decide +kernel
theorem dX12_isTable_9 : decode cX12_isTable 9 = .ok (.isub, 1) := by decide +kernel
theorem dX12_isTable_10 : decode cX12_isTable 10 = .ok (.invokestatic 229, 3) := by decide +kernel
theorem dX12_isTable_13 : decode cX12_isTable 13 = .ok (.ireturn, 1) := by decide +kernel
abbrev M_X12_isTable : mM := (cX12_isTable, 2, RX12, some .boolean, false, 1, 22, 0, 0)
theorem gX12_isTable : cI yX12_isTable M_X12_isTable 1 := ⟨(wsl_53 _ (List.mem_of_getElem? (i := 8) rfl)), (wsl_53 _ (List.mem_of_getElem? (i := 9) rfl)), (wsl_1 _ (List.mem_of_getElem? (i := 5) rfl)), (wsl_53 _ (List.mem_of_getElem? (i := 10) rfl)), by decide +kernel⟩
noncomputable def fX12_isTable (h : hH) (a0 a1 : Int) : Option (Int) :=
  (aget h (h a0 6) 0).bind fun v7 =>
  (fX12_isIn h a1 0 (w32 (v7 - 1))).bind fun r10 =>
  some r10
section M_X12_isTable
variable {p : Program} {l : Launch} {e : Env} {R : Room} {s : State} {m : MethodId} {args : Array Value} {below : List Frame} {meth : Method} {c : Code} {D : va_G} {G : gG} {A : Nat → Prop} {H0 : Heap} {n0 : Int} {x : Option vV × hH} {h : hH}
set_option maxRecDepth 100000 in
set_option maxHeartbeats 4000000 in
theorem oX12_isTable_b0 {a0 a1 : Int} {K : Int → Prop} (k0 : ∀ r, K (r) → x = (some (2, r), h)) {r : Int} (hr : fX12_isTable h a0 a1 = some r) (hk : K r) : Wq p l e R s m args below meth c D G A H0 true n0 M_X12_isTable x 0 0 0 [(0, (22, a0)), (1, (0, a1))] [] h := by
  unfold fX12_isTable at hr
  refine r_iload_n dX12_isTable_0 rfl 1 rfl (Or.inl rfl) ?_
  refine r_iconst dX12_isTable_1 (by decide) ?_
  refine r_aload_n dX12_isTable_2 rfl 0 rfl (nl rfl) ?_
  refine r_get 12 6 (o := a0) (w := (50, h a0 6)) (T := TX12) (ref := "FollowingRefsModel") rfl (by decide) rfl (by decide) inlX12 (wsl_7 _ (List.mem_of_getElem? (i := 8) rfl)) rfl dX12_isTable_3 rfl ?_
  refine r_iconst dX12_isTable_6 (by decide) ?_
  obtain ⟨v7, hg7, hr⟩ := bnd hr
  refine r_iald dX12_isTable_7 hg7 ?_
  refine r_iconst dX12_isTable_8 (by decide) ?_
  refine r_isub dX12_isTable_9 ?_
  obtain ⟨r10, hg10, hr⟩ := bnd hr
  refine k_S (as := [(0, a1), (0, 0), (0, w32 (v7 - 1))]) (rest := []) (X := (some (2, r10), h)) (oX12_isIn hg10) gX12_isIn rfl (wsl_28 _ (List.mem_of_getElem? (i := 1) rfl)) rfl dX12_isTable_10 rfl ?_
  obtain rfl := Option.some.inj hr
  exact r_ret dX12_isTable_13 rfl (Or.inr ⟨rfl, rfl⟩) (k0 _ hk) ⟨rfl, rfl⟩
end M_X12_isTable
theorem oX12_isTable {l : Launch} {D : va_G} {G : gG} {h : hH} {a0 a1 : Int} {r : Int} (hr : fX12_isTable h a0 a1 = some r) : Ctr l D G true yX12_isTable M_X12_isTable [(22, a0), (0, a1)] h (some (2, r), h) :=
  Ctr_of (by decide) rfl (fun z => by cases z) (nl rfl) (fun {p e R s m args below meth c A H0} => by
    exact oX12_isTable_b0 (K := fun z9 => z9 = r) (fun r9 z => by rw [z]) hr rfl)
/-! X12_isCol -/
theorem dX12_isCol_0 : decode cX12_isCol 0 = .ok (.aload_n 0, 1) := by decide +kernel
theorem dX12_isCol_1 : decode cX12_isCol 1 = .ok (.iload_n 1, 1) := by decide +kernel
theorem dX12_isCol_2 : decode cX12_isCol 2 = .ok (.invokevirtual 317, 3) := by decide +kernel
theorem dX12_isCol_5 : decode cX12_isCol 5 = .ok (.ifCond .eq 25, 3) := by decide +kernel
theorem dX12_isCol_8 : decode cX12_isCol 8 = .ok (.iload_n 2, 1) := by decide +kernel
theorem dX12_isCol_9 : decode cX12_isCol 9 = .ok (.iconst 0, 1) := by decide +kernel
theorem dX12_isCol_10 : decode cX12_isCol 10 = .ok (.aload_n 0, 1) := by decide +kernel
theorem dX12_isCol_11 : decode cX12_isCol 11 = .ok (.getfield 33, 3) := by decide +kernel
theorem dX12_isCol_14 : decode cX12_isCol 14 = .ok (.iconst 4, 1) := by decide +kernel
theorem dX12_isCol_15 : decode cX12_isCol 15 = .ok (.iload_n 1, 1) := by decide +kernel
theorem dX12_isCol_16 : decode cX12_isCol 16 = .ok (.iadd, 1) := by decide +kernel
theorem dX12_isCol_17 : decode cX12_isCol 17 = .ok (.iaload, 1) := by decide +kernel
theorem dX12_isCol_18 : decode cX12_isCol 18 = .ok (.iconst 1, 1) := by decide +kernel
theorem dX12_isCol_19 : decode cX12_isCol 19 = .ok (.isub, 1) := by decide +kernel
theorem dX12_isCol_20 : decode cX12_isCol 20 = .ok (.invokestatic 229, 3) := by decide +kernel
theorem dX12_isCol_23 : decode cX12_isCol 23 = .ok (.ifCond .eq 7, 3) := by decide +kernel
theorem dX12_isCol_26 : decode cX12_isCol 26 = .ok (.iconst 1, 1) := by decide +kernel
theorem dX12_isCol_27 : decode cX12_isCol 27 = .ok (.goto 4, 3) := by decide +kernel
theorem dX12_isCol_30 : decode cX12_isCol 30 = .ok (.iconst 0, 1) := by decide +kernel
theorem dX12_isCol_31 : decode cX12_isCol 31 = .ok (.ireturn, 1) := by decide +kernel
abbrev M_X12_isCol : mM := (cX12_isCol, 3, RX12, some .boolean, false, 2, 43, 0, 0)
theorem gX12_isCol : cI yX12_isCol M_X12_isCol 2 := ⟨(wsl_55 _ (List.mem_of_getElem? (i := 10) rfl)), (wsl_55 _ (List.mem_of_getElem? (i := 11) rfl)), (wsl_1 _ (List.mem_of_getElem? (i := 5) rfl)), (wsl_55 _ (List.mem_of_getElem? (i := 12) rfl)), by decide +kernel⟩
noncomputable def fX12_isCol (h : hH) (a0 a1 a2 : Int) : Option (Int) :=
  (fX12_isTable h a0 a1).bind fun r2 =>
  if r2 = 0 then
    some 0
  else
    (aget h (h a0 6) (w32 (4 + a1))).bind fun v17 =>
    (fX12_isIn h a2 0 (w32 (v17 - 1))).bind fun r20 =>
    if r20 = 0 then
      some 0
    else
      some 1
section M_X12_isCol
variable {p : Program} {l : Launch} {e : Env} {R : Room} {s : State} {m : MethodId} {args : Array Value} {below : List Frame} {meth : Method} {c : Code} {D : va_G} {G : gG} {A : Nat → Prop} {H0 : Heap} {n0 : Int} {x : Option vV × hH} {h : hH}
set_option maxRecDepth 100000 in
set_option maxHeartbeats 4000000 in
theorem oX12_isCol_b0 {a0 a1 a2 : Int} {K : Int → Prop} (k0 : ∀ r, K (r) → x = (some (2, r), h)) {r : Int} (hr : fX12_isCol h a0 a1 a2 = some r) (hk : K r) : Wq p l e R s m args below meth c D G A H0 true n0 M_X12_isCol x 0 0 0 [(0, (22, a0)), (1, (0, a1)), (2, (0, a2))] [] h := by
  unfold fX12_isCol at hr
  refine r_aload_n dX12_isCol_0 rfl 0 rfl (nl rfl) ?_
  refine r_iload_n dX12_isCol_1 rfl 1 rfl (Or.inl rfl) ?_
  obtain ⟨r2, hg2, hr⟩ := bnd hr
  refine k_V (ci := 12) (o := a0) (T := TX12) (as := [(0, a1)]) (rest := []) (X := (some (2, r2), h)) (oX12_isTable hg2) gX12_isTable rfl (by decide) rfl (wsl_53 _ (List.mem_of_getElem? (i := 7) rfl)) rfl dX12_isCol_2 rfl ?_
  refine r_scast 0 (v := (2, r2)) (w := (0, r2)) rfl zc hTz (st' := [(0, r2)]) rfl ?_
  refine r_if_eq dX12_isCol_5 (tgt := 30) (by decide) (fun hc => ?_) (fun hc => ?_)
  · have hr := ifp hr hc
    refine r_iconst dX12_isCol_30 (by decide) ?_
    refine r_scast 0 (v := (0, 0)) (w := (2, 0)) rfl cz (fun _ => Or.inl rfl) (st' := [(2, 0)]) rfl ?_
    obtain rfl := Option.some.inj hr
    exact r_ret dX12_isCol_31 rfl (Or.inr ⟨rfl, rfl⟩) (k0 _ hk) ⟨rfl, rfl⟩
  · have hr := ifn hr hc
    refine r_iload_n dX12_isCol_8 rfl 2 rfl (Or.inl rfl) ?_
    refine r_iconst dX12_isCol_9 (by decide) ?_
    refine r_aload_n dX12_isCol_10 rfl 0 rfl (nl rfl) ?_
    refine r_get 12 6 (o := a0) (w := (50, h a0 6)) (T := TX12) (ref := "FollowingRefsModel") rfl (by decide) rfl (by decide) inlX12 (wsl_7 _ (List.mem_of_getElem? (i := 8) rfl)) rfl dX12_isCol_11 rfl ?_
    refine r_iconst dX12_isCol_14 (by decide) ?_
    refine r_iload_n dX12_isCol_15 rfl 1 rfl (Or.inl rfl) ?_
    refine r_iadd dX12_isCol_16 ?_
    obtain ⟨v17, hg17, hr⟩ := bnd hr
    refine r_iald dX12_isCol_17 hg17 ?_
    refine r_iconst dX12_isCol_18 (by decide) ?_
    refine r_isub dX12_isCol_19 ?_
    obtain ⟨r20, hg20, hr⟩ := bnd hr
    refine k_S (as := [(0, a2), (0, 0), (0, w32 (v17 - 1))]) (rest := []) (X := (some (2, r20), h)) (oX12_isIn hg20) gX12_isIn rfl (wsl_28 _ (List.mem_of_getElem? (i := 1) rfl)) rfl dX12_isCol_20 rfl ?_
    refine r_scast 0 (v := (2, r20)) (w := (0, r20)) rfl zc hTz (st' := [(0, r20)]) rfl ?_
    refine r_if_eq dX12_isCol_23 (tgt := 30) (by decide) (fun hc => ?_) (fun hc => ?_)
    · have hr := ifp hr hc
      refine r_iconst dX12_isCol_30 (by decide) ?_
      refine r_scast 0 (v := (0, 0)) (w := (2, 0)) rfl cz (fun _ => Or.inl rfl) (st' := [(2, 0)]) rfl ?_
      obtain rfl := Option.some.inj hr
      exact r_ret dX12_isCol_31 rfl (Or.inr ⟨rfl, rfl⟩) (k0 _ hk) ⟨rfl, rfl⟩
    · have hr := ifn hr hc
      refine r_iconst dX12_isCol_26 (by decide) ?_
      refine r_goto dX12_isCol_27 (tgt := 31) (by decide) ?_
      refine r_scast 0 (v := (0, 1)) (w := (2, 1)) rfl cz (fun _ => Or.inr rfl) (st' := [(2, 1)]) rfl ?_
      obtain rfl := Option.some.inj hr
      exact r_ret dX12_isCol_31 rfl (Or.inr ⟨rfl, rfl⟩) (k0 _ hk) ⟨rfl, rfl⟩
end M_X12_isCol
theorem oX12_isCol {l : Launch} {D : va_G} {G : gG} {h : hH} {a0 a1 a2 : Int} {r : Int} (hr : fX12_isCol h a0 a1 a2 = some r) : Ctr l D G true yX12_isCol M_X12_isCol [(22, a0), (0, a1), (0, a2)] h (some (2, r), h) :=
  Ctr_of (by decide) rfl (fun z => by cases z) (nl rfl) (fun {p e R s m args below meth c A H0} => by
    exact oX12_isCol_b0 (K := fun z9 => z9 = r) (fun r9 z => by rw [z]) hr rfl)
/-! X12_isRow -/
theorem dX12_isRow_0 : decode cX12_isRow 0 = .ok (.iload_n 1, 1) := by decide +kernel
theorem dX12_isRow_1 : decode cX12_isRow 1 = .ok (.iconst 0, 1) := by decide +kernel
theorem dX12_isRow_2 : decode cX12_isRow 2 = .ok (.bipush 98, 2) := by decide +kernel
theorem dX12_isRow_4 : decode cX12_isRow 4 = .ok (.invokestatic 229, 3) := by decide +kernel
theorem dX12_isRow_7 : decode cX12_isRow 7 = .ok (.ifCond .eq 21, 3) := by decide +kernel
theorem dX12_isRow_10 : decode cX12_isRow 10 = .ok (.aload_n 0, 1) := by decide +kernel
theorem dX12_isRow_11 : decode cX12_isRow 11 = .ok (.getfield 33, 3) := by decide +kernel
theorem dX12_isRow_14 : decode cX12_isRow 14 = .ok (.sipush 150, 3) := by decide +kernel
theorem dX12_isRow_17 : decode cX12_isRow 17 = .ok (.iload_n 1, 1) := by decide +kernel
theorem dX12_isRow_18 : decode cX12_isRow 18 = .ok (.iadd, 1) := by decide +kernel
theorem dX12_isRow_19 : decode cX12_isRow 19 = .ok (.iaload, 1) := by decide +kernel
theorem dX12_isRow_20 : decode cX12_isRow 20 = .ok (.iconst 1, 1) := by decide +kernel
theorem dX12_isRow_21 : decode cX12_isRow 21 = .ok (.if_icmp .ne 7, 3) := by decide +kernel
theorem dX12_isRow_24 : decode cX12_isRow 24 = .ok (.iconst 1, 1) := by decide +kernel
theorem dX12_isRow_25 : decode cX12_isRow 25 = .ok (.goto 4, 3) := by decide +kernel
theorem dX12_isRow_28 : decode cX12_isRow 28 = .ok (.iconst 0, 1) := by decide +kernel
theorem dX12_isRow_29 : decode cX12_isRow 29 = .ok (.ireturn, 1) := by decide +kernel
abbrev M_X12_isRow : mM := (cX12_isRow, 2, RX12, some .boolean, false, 1, 22, 0, 0)
theorem gX12_isRow : cI yX12_isRow M_X12_isRow 1 := ⟨(wsl_54 _ (List.mem_of_getElem? (i := 13) rfl)), (wsl_54 _ (List.mem_of_getElem? (i := 14) rfl)), (wsl_1 _ (List.mem_of_getElem? (i := 5) rfl)), (wsl_54 _ (List.mem_of_getElem? (i := 15) rfl)), by decide +kernel⟩
noncomputable def fX12_isRow (h : hH) (a0 a1 : Int) : Option (Int) :=
  (fX12_isIn h a1 0 98).bind fun r4 =>
  if r4 = 0 then
    some 0
  else
    (aget h (h a0 6) (w32 (150 + a1))).bind fun v19 =>
    if v19 = 1 then
      some 1
    else
      some 0
section M_X12_isRow
variable {p : Program} {l : Launch} {e : Env} {R : Room} {s : State} {m : MethodId} {args : Array Value} {below : List Frame} {meth : Method} {c : Code} {D : va_G} {G : gG} {A : Nat → Prop} {H0 : Heap} {n0 : Int} {x : Option vV × hH} {h : hH}
set_option maxRecDepth 100000 in
set_option maxHeartbeats 4000000 in
theorem oX12_isRow_b0 {a0 a1 : Int} {K : Int → Prop} (k0 : ∀ r, K (r) → x = (some (2, r), h)) {r : Int} (hr : fX12_isRow h a0 a1 = some r) (hk : K r) : Wq p l e R s m args below meth c D G A H0 true n0 M_X12_isRow x 0 0 0 [(0, (22, a0)), (1, (0, a1))] [] h := by
  unfold fX12_isRow at hr
  refine r_iload_n dX12_isRow_0 rfl 1 rfl (Or.inl rfl) ?_
  refine r_iconst dX12_isRow_1 (by decide) ?_
  refine r_bipush dX12_isRow_2 (by decide) (by decide) ?_
  obtain ⟨r4, hg4, hr⟩ := bnd hr
  refine k_S (as := [(0, a1), (0, 0), (0, 98)]) (rest := []) (X := (some (2, r4), h)) (oX12_isIn hg4) gX12_isIn rfl (wsl_28 _ (List.mem_of_getElem? (i := 1) rfl)) rfl dX12_isRow_4 rfl ?_
  refine r_scast 0 (v := (2, r4)) (w := (0, r4)) rfl zc hTz (st' := [(0, r4)]) rfl ?_
  refine r_if_eq dX12_isRow_7 (tgt := 28) (by decide) (fun hc => ?_) (fun hc => ?_)
  · have hr := ifp hr hc
    refine r_iconst dX12_isRow_28 (by decide) ?_
    refine r_scast 0 (v := (0, 0)) (w := (2, 0)) rfl cz (fun _ => Or.inl rfl) (st' := [(2, 0)]) rfl ?_
    obtain rfl := Option.some.inj hr
    exact r_ret dX12_isRow_29 rfl (Or.inr ⟨rfl, rfl⟩) (k0 _ hk) ⟨rfl, rfl⟩
  · have hr := ifn hr hc
    refine r_aload_n dX12_isRow_10 rfl 0 rfl (nl rfl) ?_
    refine r_get 12 6 (o := a0) (w := (50, h a0 6)) (T := TX12) (ref := "FollowingRefsModel") rfl (by decide) rfl (by decide) inlX12 (wsl_7 _ (List.mem_of_getElem? (i := 8) rfl)) rfl dX12_isRow_11 rfl ?_
    refine r_sipush dX12_isRow_14 (by decide) (by decide) ?_
    refine r_iload_n dX12_isRow_17 rfl 1 rfl (Or.inl rfl) ?_
    refine r_iadd dX12_isRow_18 ?_
    obtain ⟨v19, hg19, hr⟩ := bnd hr
    refine r_iald dX12_isRow_19 hg19 ?_
    refine r_iconst dX12_isRow_20 (by decide) ?_
    refine r_icmp_ne dX12_isRow_21 (tgt := 28) (by decide) (fun hc => ?_) (fun hc => ?_)
    · have hr := ifn hr hc
      refine r_iconst dX12_isRow_28 (by decide) ?_
      refine r_scast 0 (v := (0, 0)) (w := (2, 0)) rfl cz (fun _ => Or.inl rfl) (st' := [(2, 0)]) rfl ?_
      obtain rfl := Option.some.inj hr
      exact r_ret dX12_isRow_29 rfl (Or.inr ⟨rfl, rfl⟩) (k0 _ hk) ⟨rfl, rfl⟩
    · have hr := ifp hr hc
      refine r_iconst dX12_isRow_24 (by decide) ?_
      refine r_goto dX12_isRow_25 (tgt := 29) (by decide) ?_
      refine r_scast 0 (v := (0, 1)) (w := (2, 1)) rfl cz (fun _ => Or.inr rfl) (st' := [(2, 1)]) rfl ?_
      obtain rfl := Option.some.inj hr
      exact r_ret dX12_isRow_29 rfl (Or.inr ⟨rfl, rfl⟩) (k0 _ hk) ⟨rfl, rfl⟩
end M_X12_isRow
theorem oX12_isRow {l : Launch} {D : va_G} {G : gG} {h : hH} {a0 a1 : Int} {r : Int} (hr : fX12_isRow h a0 a1 = some r) : Ctr l D G true yX12_isRow M_X12_isRow [(22, a0), (0, a1)] h (some (2, r), h) :=
  Ctr_of (by decide) rfl (fun z => by cases z) (nl rfl) (fun {p e R s m args below meth c A H0} => by
    exact oX12_isRow_b0 (K := fun z9 => z9 = r) (fun r9 z => by rw [z]) hr rfl)
/-! X12_cellOf -/
theorem dX12_cellOf_0 : decode cX12_cellOf 0 = .ok (.aload_n 0, 1) := by decide +kernel
theorem dX12_cellOf_1 : decode cX12_cellOf 1 = .ok (.getfield 33, 3) := by decide +kernel
theorem dX12_cellOf_4 : decode cX12_cellOf 4 = .ok (.sipush 348, 3) := by decide +kernel
theorem dX12_cellOf_7 : decode cX12_cellOf 7 = .ok (.iconst 4, 1) := by decide +kernel
theorem dX12_cellOf_8 : decode cX12_cellOf 8 = .ok (.iload_n 1, 1) := by decide +kernel
theorem dX12_cellOf_9 : decode cX12_cellOf 9 = .ok (.imul, 1) := by decide +kernel
theorem dX12_cellOf_10 : decode cX12_cellOf 10 = .ok (.iadd, 1) := by decide +kernel
theorem dX12_cellOf_11 : decode cX12_cellOf 11 = .ok (.iload_n 2, 1) := by decide +kernel
theorem dX12_cellOf_12 : decode cX12_cellOf 12 = .ok (.iadd, 1) := by decide +kernel
theorem dX12_cellOf_13 : decode cX12_cellOf 13 = .ok (.iaload, 1) := by decide +kernel
theorem dX12_cellOf_14 : decode cX12_cellOf 14 = .ok (.ireturn, 1) := by decide +kernel
abbrev M_X12_cellOf : mM := (cX12_cellOf, 3, RX12, some .int, false, 0, 0, 0, 0)
theorem gX12_cellOf : cI yX12_cellOf M_X12_cellOf 2 := ⟨(wsl_42 _ (List.mem_of_getElem? (i := 18) rfl)), (wsl_42 _ (List.mem_of_getElem? (i := 19) rfl)), (wsl_1 _ (List.mem_of_getElem? (i := 5) rfl)), (wsl_42 _ (List.mem_of_getElem? (i := 20) rfl)), by decide +kernel⟩
noncomputable def fX12_cellOf (h : hH) (a0 a1 a2 : Int) : Option (Int) :=
  (aget h (h a0 6) (w32 ((w32 (348 + (w32 (4 * a1)))) + a2))).bind fun v13 =>
  some v13
section M_X12_cellOf
variable {p : Program} {l : Launch} {e : Env} {R : Room} {s : State} {m : MethodId} {args : Array Value} {below : List Frame} {meth : Method} {c : Code} {D : va_G} {G : gG} {A : Nat → Prop} {H0 : Heap} {n0 : Int} {x : Option vV × hH} {h : hH}
set_option maxRecDepth 100000 in
set_option maxHeartbeats 4000000 in
theorem oX12_cellOf_b0 {a0 a1 a2 : Int} {K : Int → Prop} (k0 : ∀ r, K (r) → x = (some (0, r), h)) {r : Int} (hr : fX12_cellOf h a0 a1 a2 = some r) (hk : K r) : Wq p l e R s m args below meth c D G A H0 true n0 M_X12_cellOf x 0 0 0 [(0, (22, a0)), (1, (0, a1)), (2, (0, a2))] [] h := by
  unfold fX12_cellOf at hr
  refine r_aload_n dX12_cellOf_0 rfl 0 rfl (nl rfl) ?_
  refine r_get 12 6 (o := a0) (w := (50, h a0 6)) (T := TX12) (ref := "FollowingRefsModel") rfl (by decide) rfl (by decide) inlX12 (wsl_7 _ (List.mem_of_getElem? (i := 8) rfl)) rfl dX12_cellOf_1 rfl ?_
  refine r_sipush dX12_cellOf_4 (by decide) (by decide) ?_
  refine r_iconst dX12_cellOf_7 (by decide) ?_
  refine r_iload_n dX12_cellOf_8 rfl 1 rfl (Or.inl rfl) ?_
  refine r_imul dX12_cellOf_9 ?_
  refine r_iadd dX12_cellOf_10 ?_
  refine r_iload_n dX12_cellOf_11 rfl 2 rfl (Or.inl rfl) ?_
  refine r_iadd dX12_cellOf_12 ?_
  obtain ⟨v13, hg13, hr⟩ := bnd hr
  refine r_iald dX12_cellOf_13 hg13 ?_
  obtain rfl := Option.some.inj hr
  exact r_ret dX12_cellOf_14 rfl (Or.inl ⟨rfl, rfl⟩) (k0 _ hk) ⟨rfl, rfl⟩
end M_X12_cellOf
theorem oX12_cellOf {l : Launch} {D : va_G} {G : gG} {h : hH} {a0 a1 a2 : Int} {r : Int} (hr : fX12_cellOf h a0 a1 a2 = some r) : Ctr l D G true yX12_cellOf M_X12_cellOf [(22, a0), (0, a1), (0, a2)] h (some (0, r), h) :=
  Ctr_of (by decide) rfl (fun z => by cases z) (nl rfl) (fun {p e R s m args below meth c A H0} => by
    exact oX12_cellOf_b0 (K := fun z9 => z9 = r) (fun r9 z => by rw [z]) hr rfl)
/-! X12_rowsNow -/
theorem dX12_rowsNow_0 : decode cX12_rowsNow 0 = .ok (.iconst 0, 1) := by decide +kernel
theorem dX12_rowsNow_1 : decode cX12_rowsNow 1 = .ok (.istore_n 1, 1) := by decide +kernel
theorem dX12_rowsNow_2 : decode cX12_rowsNow 2 = .ok (.iconst 0, 1) := by decide +kernel
theorem dX12_rowsNow_3 : decode cX12_rowsNow 3 = .ok (.istore_n 2, 1) := by decide +kernel
theorem dX12_rowsNow_4 : decode cX12_rowsNow 4 = .ok (.iload_n 2, 1) := by decide +kernel
theorem dX12_rowsNow_5 : decode cX12_rowsNow 5 = .ok (.bipush 99, 2) := by decide +kernel
theorem dX12_rowsNow_7 : decode cX12_rowsNow 7 = .ok (.if_icmp .ge 22, 3) := by decide +kernel
theorem dX12_rowsNow_10 : decode cX12_rowsNow 10 = .ok (.iload_n 1, 1) := by decide +kernel
theorem dX12_rowsNow_11 : decode cX12_rowsNow 11 = .ok (.aload_n 0, 1) := by decide +kernel
theorem dX12_rowsNow_12 : decode cX12_rowsNow 12 = .ok (.getfield 33, 3) := by decide +kernel
theorem dX12_rowsNow_15 : decode cX12_rowsNow 15 = .ok (.sipush 150, 3) := by decide +kernel
theorem dX12_rowsNow_18 : decode cX12_rowsNow 18 = .ok (.iload_n 2, 1) := by decide +kernel
theorem dX12_rowsNow_19 : decode cX12_rowsNow 19 = .ok (.iadd, 1) := by decide +kernel
theorem dX12_rowsNow_20 : decode cX12_rowsNow 20 = .ok (.iaload, 1) := by decide +kernel
theorem dX12_rowsNow_21 : decode cX12_rowsNow 21 = .ok (.iadd, 1) := by decide +kernel
theorem dX12_rowsNow_22 : decode cX12_rowsNow 22 = .ok (.istore_n 1, 1) := by decide +kernel
theorem dX12_rowsNow_23 : decode cX12_rowsNow 23 = .ok (.iinc 2 1, 3) := by decide +kernel
theorem dX12_rowsNow_26 : decode cX12_rowsNow 26 = .ok (.goto (-22), 3) := by decide +kernel
theorem dX12_rowsNow_29 : decode cX12_rowsNow 29 = .ok (.iload_n 1, 1) := by decide +kernel
theorem dX12_rowsNow_30 : decode cX12_rowsNow 30 = .ok (.ireturn, 1) := by decide +kernel
abbrev M_X12_rowsNow : mM := (cX12_rowsNow, 3, RX12, some .int, false, 0, 0, 0, 0)
theorem gX12_rowsNow : cI yX12_rowsNow M_X12_rowsNow 0 := ⟨(wsl_43 _ (List.mem_of_getElem? (i := 2) rfl)), (wsl_43 _ (List.mem_of_getElem? (i := 3) rfl)), (wsl_1 _ (List.mem_of_getElem? (i := 5) rfl)), (wsl_43 _ (List.mem_of_getElem? (i := 4) rfl)), by decide +kernel⟩
noncomputable def fX12_rowsNow_s4 (h : hH) (a0 : Int) : Int × Int → Option ((Int × Int) ⊕ (Int)) := fun (l1, l2) =>
  if l2 < 99 then
    (aget h (h a0 6) (w32 (150 + l2))).bind fun v20 =>
    some (.inl (w32 (l1 + v20), w32 (l2 + 1)))
  else
    some (.inr (l1))
noncomputable def fX12_rowsNow (h : hH) (a0 : Int) : Option (Int) :=
  lpO (fX12_rowsNow_s4 h a0) (0, 0)
section M_X12_rowsNow
variable {p : Program} {l : Launch} {e : Env} {R : Room} {s : State} {m : MethodId} {args : Array Value} {below : List Frame} {meth : Method} {c : Code} {D : va_G} {G : gG} {A : Nat → Prop} {H0 : Heap} {n0 : Int} {x : Option vV × hH} {h : hH}
set_option maxRecDepth 100000 in
set_option maxHeartbeats 4000000 in
theorem oX12_rowsNow_s4 {a0 l1 l2 : Int} {K : (Int × Int) ⊕ (Int) → Prop} (k0 : ∀ r, K (.inr (r)) → x = (some (0, r), h)) (k1 : ∀ (l1 : Int) (l2 : Int), K (.inl (l1, l2)) → Wq p l e R s m args below meth c D G A H0 true n0 M_X12_rowsNow x 0 0 4 [(0, (22, a0)), (1, (0, l1)), (2, (0, l2))] [] h) {r : (Int × Int) ⊕ (Int)} (hr : fX12_rowsNow_s4 h a0 (l1, l2) = some r) (hk : K r) : Wq p l e R s m args below meth c D G A H0 true n0 M_X12_rowsNow x 0 0 4 [(0, (22, a0)), (1, (0, l1)), (2, (0, l2))] [] h := by
  unfold fX12_rowsNow_s4 at hr
  refine r_iload_n dX12_rowsNow_4 rfl 2 rfl (Or.inl rfl) ?_
  refine r_bipush dX12_rowsNow_5 (by decide) (by decide) ?_
  refine r_icmp_ge dX12_rowsNow_7 (tgt := 29) (by decide) (fun hc => ?_) (fun hc => ?_)
  · have hr := ifn hr hc
    refine r_iload_n dX12_rowsNow_29 rfl 1 rfl (Or.inl rfl) ?_
    obtain rfl := Option.some.inj hr
    exact r_ret dX12_rowsNow_30 rfl (Or.inl ⟨rfl, rfl⟩) (k0 _ hk) ⟨rfl, rfl⟩
  · have hr := ifp hr hc
    refine r_iload_n dX12_rowsNow_10 rfl 1 rfl (Or.inl rfl) ?_
    refine r_aload_n dX12_rowsNow_11 rfl 0 rfl (nl rfl) ?_
    refine r_get 12 6 (o := a0) (w := (50, h a0 6)) (T := TX12) (ref := "FollowingRefsModel") rfl (by decide) rfl (by decide) inlX12 (wsl_7 _ (List.mem_of_getElem? (i := 8) rfl)) rfl dX12_rowsNow_12 rfl ?_
    refine r_sipush dX12_rowsNow_15 (by decide) (by decide) ?_
    refine r_iload_n dX12_rowsNow_18 rfl 2 rfl (Or.inl rfl) ?_
    refine r_iadd dX12_rowsNow_19 ?_
    obtain ⟨v20, hg20, hr⟩ := bnd hr
    refine r_iald dX12_rowsNow_20 hg20 ?_
    refine r_iadd dX12_rowsNow_21 ?_
    refine r_istore_n dX12_rowsNow_22 rfl (Or.inl rfl) (by decide) (lv' := [(1, (0, w32 (l1 + v20))), (0, (22, a0)), (2, (0, l2))]) rfl ?_
    refine r_iinc (k := 2) (v := l2) dX12_rowsNow_23 rfl (by decide) (lv' := [(2, (0, w32 (l2 + 1))), (1, (0, w32 (l1 + v20))), (0, (22, a0))]) rfl ?_
    refine r_goto dX12_rowsNow_26 (tgt := 4) (by decide) ?_
    refine r_sub [2, 1, 0] (lv' := [(0, (22, a0)), (1, (0, w32 (l1 + v20))), (2, (0, w32 (l2 + 1)))]) rfl ?_
    obtain rfl := Option.some.inj hr
    exact k1 _ _ hk
set_option maxRecDepth 100000 in
set_option maxHeartbeats 4000000 in
theorem oX12_rowsNow_b0 {a0 : Int} {K : Int → Prop} (k0 : ∀ r, K (r) → x = (some (0, r), h)) {r : Int} (hr : fX12_rowsNow h a0 = some r) (hk : K r) : Wq p l e R s m args below meth c D G A H0 true n0 M_X12_rowsNow x 0 0 0 [(0, (22, a0))] [] h := by
  unfold fX12_rowsNow at hr
  refine r_iconst dX12_rowsNow_0 (by decide) ?_
  refine r_istore_n dX12_rowsNow_1 rfl (Or.inl rfl) (by decide) (lv' := [(1, (0, 0)), (0, (22, a0))]) rfl ?_
  refine r_iconst dX12_rowsNow_2 (by decide) ?_
  refine r_istore_n dX12_rowsNow_3 rfl (Or.inl rfl) (by decide) (lv' := [(2, (0, 0)), (1, (0, 0)), (0, (22, a0))]) rfl ?_
  refine r_sub [2, 1, 0] (lv' := [(0, (22, a0)), (1, (0, 0)), (2, (0, 0))]) rfl ?_
  exact lp_ok (w := fun (q : Int × Int) => Wq p l e R s m args below meth c D G A H0 true n0 M_X12_rowsNow x 0 0 4 [(0, (22, a0)), (1, (0, q.1)), (2, (0, q.2))] [] (h)) (K := K) (fun ⟨q0, q1⟩ r h1 h2 => oX12_rowsNow_s4 (K := Sum.elim (fun (q : Int × Int) => Wq p l e R s m args below meth c D G A H0 true n0 M_X12_rowsNow x 0 0 4 [(0, (22, a0)), (1, (0, q.1)), (2, (0, q.2))] [] (h)) (K)) (fun r z => k0 r z) (fun _ _ z => z) h1 h2) hr hk
end M_X12_rowsNow
theorem oX12_rowsNow {l : Launch} {D : va_G} {G : gG} {h : hH} {a0 : Int} {r : Int} (hr : fX12_rowsNow h a0 = some r) : Ctr l D G true yX12_rowsNow M_X12_rowsNow [(22, a0)] h (some (0, r), h) :=
  Ctr_of (by decide) rfl (fun z => by cases z) (nl rfl) (fun {p e R s m args below meth c A H0} => by
    exact oX12_rowsNow_b0 (K := fun z9 => z9 = r) (fun r9 z => by rw [z]) hr rfl)
/-! X12_refCol -/
theorem dX12_refCol_0 : decode cX12_refCol 0 = .ok (.iload_n 2, 1) := by decide +kernel
theorem dX12_refCol_1 : decode cX12_refCol 1 = .ok (.ifCond .ne 15, 3) := by decide +kernel
theorem dX12_refCol_4 : decode cX12_refCol 4 = .ok (.aload_n 0, 1) := by decide +kernel
theorem dX12_refCol_5 : decode cX12_refCol 5 = .ok (.getfield 33, 3) := by decide +kernel
theorem dX12_refCol_8 : decode cX12_refCol 8 = .ok (.bipush 64, 2) := by decide +kernel
theorem dX12_refCol_10 : decode cX12_refCol 10 = .ok (.iload_n 1, 1) := by decide +kernel
theorem dX12_refCol_11 : decode cX12_refCol 11 = .ok (.iadd, 1) := by decide +kernel
theorem dX12_refCol_12 : decode cX12_refCol 12 = .ok (.iaload, 1) := by decide +kernel
theorem dX12_refCol_13 : decode cX12_refCol 13 = .ok (.goto 12, 3) := by decide +kernel
theorem dX12_refCol_16 : decode cX12_refCol 16 = .ok (.aload_n 0, 1) := by decide +kernel
theorem dX12_refCol_17 : decode cX12_refCol 17 = .ok (.getfield 33, 3) := by decide +kernel
theorem dX12_refCol_20 : decode cX12_refCol 20 = .ok (.bipush 70, 2) := by decide +kernel
theorem dX12_refCol_22 : decode cX12_refCol 22 = .ok (.iload_n 1, 1) := by decide +kernel
theorem dX12_refCol_23 : decode cX12_refCol 23 = .ok (.iadd, 1) := by decide +kernel
theorem dX12_refCol_24 : decode cX12_refCol 24 = .ok (.iaload, 1) := by decide +kernel
theorem dX12_refCol_25 : decode cX12_refCol 25 = .ok (.ireturn, 1) := by decide +kernel
abbrev M_X12_refCol : mM := (cX12_refCol, 3, RX12, some .int, false, 0, 0, 0, 0)
theorem gX12_refCol : cI yX12_refCol M_X12_refCol 2 := ⟨(wsl_44 _ (List.mem_of_getElem? (i := 21) rfl)), (wsl_44 _ (List.mem_of_getElem? (i := 22) rfl)), (wsl_1 _ (List.mem_of_getElem? (i := 5) rfl)), (wsl_44 _ (List.mem_of_getElem? (i := 23) rfl)), by decide +kernel⟩
noncomputable def fX12_refCol (h : hH) (a0 a1 a2 : Int) : Option (Int) :=
  if a2 = 0 then
    (aget h (h a0 6) (w32 (64 + a1))).bind fun v12 =>
    some v12
  else
    (aget h (h a0 6) (w32 (70 + a1))).bind fun v24 =>
    some v24
section M_X12_refCol
variable {p : Program} {l : Launch} {e : Env} {R : Room} {s : State} {m : MethodId} {args : Array Value} {below : List Frame} {meth : Method} {c : Code} {D : va_G} {G : gG} {A : Nat → Prop} {H0 : Heap} {n0 : Int} {x : Option vV × hH} {h : hH}
set_option maxRecDepth 100000 in
set_option maxHeartbeats 4000000 in
theorem oX12_refCol_b0 {a0 a1 a2 : Int} {K : Int → Prop} (k0 : ∀ r, K (r) → x = (some (0, r), h)) {r : Int} (hr : fX12_refCol h a0 a1 a2 = some r) (hk : K r) : Wq p l e R s m args below meth c D G A H0 true n0 M_X12_refCol x 0 0 0 [(0, (22, a0)), (1, (0, a1)), (2, (0, a2))] [] h := by
  unfold fX12_refCol at hr
  refine r_iload_n dX12_refCol_0 rfl 2 rfl (Or.inl rfl) ?_
  refine r_if_ne dX12_refCol_1 (tgt := 16) (by decide) (fun hc => ?_) (fun hc => ?_)
  · have hr := ifn hr hc
    refine r_aload_n dX12_refCol_16 rfl 0 rfl (nl rfl) ?_
    refine r_get 12 6 (o := a0) (w := (50, h a0 6)) (T := TX12) (ref := "FollowingRefsModel") rfl (by decide) rfl (by decide) inlX12 (wsl_7 _ (List.mem_of_getElem? (i := 8) rfl)) rfl dX12_refCol_17 rfl ?_
    refine r_bipush dX12_refCol_20 (by decide) (by decide) ?_
    refine r_iload_n dX12_refCol_22 rfl 1 rfl (Or.inl rfl) ?_
    refine r_iadd dX12_refCol_23 ?_
    obtain ⟨v24, hg24, hr⟩ := bnd hr
    refine r_iald dX12_refCol_24 hg24 ?_
    obtain rfl := Option.some.inj hr
    exact r_ret dX12_refCol_25 rfl (Or.inl ⟨rfl, rfl⟩) (k0 _ hk) ⟨rfl, rfl⟩
  · have hr := ifp hr hc
    refine r_aload_n dX12_refCol_4 rfl 0 rfl (nl rfl) ?_
    refine r_get 12 6 (o := a0) (w := (50, h a0 6)) (T := TX12) (ref := "FollowingRefsModel") rfl (by decide) rfl (by decide) inlX12 (wsl_7 _ (List.mem_of_getElem? (i := 8) rfl)) rfl dX12_refCol_5 rfl ?_
    refine r_bipush dX12_refCol_8 (by decide) (by decide) ?_
    refine r_iload_n dX12_refCol_10 rfl 1 rfl (Or.inl rfl) ?_
    refine r_iadd dX12_refCol_11 ?_
    obtain ⟨v12, hg12, hr⟩ := bnd hr
    refine r_iald dX12_refCol_12 hg12 ?_
    refine r_goto dX12_refCol_13 (tgt := 25) (by decide) ?_
    obtain rfl := Option.some.inj hr
    exact r_ret dX12_refCol_25 rfl (Or.inl ⟨rfl, rfl⟩) (k0 _ hk) ⟨rfl, rfl⟩
end M_X12_refCol
theorem oX12_refCol {l : Launch} {D : va_G} {G : gG} {h : hH} {a0 a1 a2 : Int} {r : Int} (hr : fX12_refCol h a0 a1 a2 = some r) : Ctr l D G true yX12_refCol M_X12_refCol [(22, a0), (0, a1), (0, a2)] h (some (0, r), h) :=
  Ctr_of (by decide) rfl (fun z => by cases z) (nl rfl) (fun {p e R s m args below meth c A H0} => by
    exact oX12_refCol_b0 (K := fun z9 => z9 = r) (fun r9 z => by rw [z]) hr rfl)
/-! X12_keyCol -/
theorem dX12_keyCol_0 : decode cX12_keyCol 0 = .ok (.iload_n 2, 1) := by decide +kernel
theorem dX12_keyCol_1 : decode cX12_keyCol 1 = .ok (.ifCond .ne 15, 3) := by decide +kernel
theorem dX12_keyCol_4 : decode cX12_keyCol 4 = .ok (.aload_n 0, 1) := by decide +kernel
theorem dX12_keyCol_5 : decode cX12_keyCol 5 = .ok (.getfield 33, 3) := by decide +kernel
theorem dX12_keyCol_8 : decode cX12_keyCol 8 = .ok (.bipush 46, 2) := by decide +kernel
theorem dX12_keyCol_10 : decode cX12_keyCol 10 = .ok (.iload_n 1, 1) := by decide +kernel
theorem dX12_keyCol_11 : decode cX12_keyCol 11 = .ok (.iadd, 1) := by decide +kernel
theorem dX12_keyCol_12 : decode cX12_keyCol 12 = .ok (.iaload, 1) := by decide +kernel
theorem dX12_keyCol_13 : decode cX12_keyCol 13 = .ok (.goto 12, 3) := by decide +kernel
theorem dX12_keyCol_16 : decode cX12_keyCol 16 = .ok (.aload_n 0, 1) := by decide +kernel
theorem dX12_keyCol_17 : decode cX12_keyCol 17 = .ok (.getfield 33, 3) := by decide +kernel
theorem dX12_keyCol_20 : decode cX12_keyCol 20 = .ok (.bipush 52, 2) := by decide +kernel
theorem dX12_keyCol_22 : decode cX12_keyCol 22 = .ok (.iload_n 1, 1) := by decide +kernel
theorem dX12_keyCol_23 : decode cX12_keyCol 23 = .ok (.iadd, 1) := by decide +kernel
theorem dX12_keyCol_24 : decode cX12_keyCol 24 = .ok (.iaload, 1) := by decide +kernel
theorem dX12_keyCol_25 : decode cX12_keyCol 25 = .ok (.ireturn, 1) := by decide +kernel
abbrev M_X12_keyCol : mM := (cX12_keyCol, 3, RX12, some .int, false, 0, 0, 0, 0)
theorem gX12_keyCol : cI yX12_keyCol M_X12_keyCol 2 := ⟨(wsl_44 _ (List.mem_of_getElem? (i := 9) rfl)), (wsl_44 _ (List.mem_of_getElem? (i := 10) rfl)), (wsl_1 _ (List.mem_of_getElem? (i := 5) rfl)), (wsl_44 _ (List.mem_of_getElem? (i := 11) rfl)), by decide +kernel⟩
noncomputable def fX12_keyCol (h : hH) (a0 a1 a2 : Int) : Option (Int) :=
  if a2 = 0 then
    (aget h (h a0 6) (w32 (46 + a1))).bind fun v12 =>
    some v12
  else
    (aget h (h a0 6) (w32 (52 + a1))).bind fun v24 =>
    some v24
section M_X12_keyCol
variable {p : Program} {l : Launch} {e : Env} {R : Room} {s : State} {m : MethodId} {args : Array Value} {below : List Frame} {meth : Method} {c : Code} {D : va_G} {G : gG} {A : Nat → Prop} {H0 : Heap} {n0 : Int} {x : Option vV × hH} {h : hH}
set_option maxRecDepth 100000 in
set_option maxHeartbeats 4000000 in
theorem oX12_keyCol_b0 {a0 a1 a2 : Int} {K : Int → Prop} (k0 : ∀ r, K (r) → x = (some (0, r), h)) {r : Int} (hr : fX12_keyCol h a0 a1 a2 = some r) (hk : K r) : Wq p l e R s m args below meth c D G A H0 true n0 M_X12_keyCol x 0 0 0 [(0, (22, a0)), (1, (0, a1)), (2, (0, a2))] [] h := by
  unfold fX12_keyCol at hr
  refine r_iload_n dX12_keyCol_0 rfl 2 rfl (Or.inl rfl) ?_
  refine r_if_ne dX12_keyCol_1 (tgt := 16) (by decide) (fun hc => ?_) (fun hc => ?_)
  · have hr := ifn hr hc
    refine r_aload_n dX12_keyCol_16 rfl 0 rfl (nl rfl) ?_
    refine r_get 12 6 (o := a0) (w := (50, h a0 6)) (T := TX12) (ref := "FollowingRefsModel") rfl (by decide) rfl (by decide) inlX12 (wsl_7 _ (List.mem_of_getElem? (i := 8) rfl)) rfl dX12_keyCol_17 rfl ?_
    refine r_bipush dX12_keyCol_20 (by decide) (by decide) ?_
    refine r_iload_n dX12_keyCol_22 rfl 1 rfl (Or.inl rfl) ?_
    refine r_iadd dX12_keyCol_23 ?_
    obtain ⟨v24, hg24, hr⟩ := bnd hr
    refine r_iald dX12_keyCol_24 hg24 ?_
    obtain rfl := Option.some.inj hr
    exact r_ret dX12_keyCol_25 rfl (Or.inl ⟨rfl, rfl⟩) (k0 _ hk) ⟨rfl, rfl⟩
  · have hr := ifp hr hc
    refine r_aload_n dX12_keyCol_4 rfl 0 rfl (nl rfl) ?_
    refine r_get 12 6 (o := a0) (w := (50, h a0 6)) (T := TX12) (ref := "FollowingRefsModel") rfl (by decide) rfl (by decide) inlX12 (wsl_7 _ (List.mem_of_getElem? (i := 8) rfl)) rfl dX12_keyCol_5 rfl ?_
    refine r_bipush dX12_keyCol_8 (by decide) (by decide) ?_
    refine r_iload_n dX12_keyCol_10 rfl 1 rfl (Or.inl rfl) ?_
    refine r_iadd dX12_keyCol_11 ?_
    obtain ⟨v12, hg12, hr⟩ := bnd hr
    refine r_iald dX12_keyCol_12 hg12 ?_
    refine r_goto dX12_keyCol_13 (tgt := 25) (by decide) ?_
    obtain rfl := Option.some.inj hr
    exact r_ret dX12_keyCol_25 rfl (Or.inl ⟨rfl, rfl⟩) (k0 _ hk) ⟨rfl, rfl⟩
end M_X12_keyCol
theorem oX12_keyCol {l : Launch} {D : va_G} {G : gG} {h : hH} {a0 a1 a2 : Int} {r : Int} (hr : fX12_keyCol h a0 a1 a2 = some r) : Ctr l D G true yX12_keyCol M_X12_keyCol [(22, a0), (0, a1), (0, a2)] h (some (0, r), h) :=
  Ctr_of (by decide) rfl (fun z => by cases z) (nl rfl) (fun {p e R s m args below meth c A H0} => by
    exact oX12_keyCol_b0 (K := fun z9 => z9 = r) (fun r9 z => by rw [z]) hr rfl)
/-! X12_hasKey -/
theorem dX12_hasKey_0 : decode cX12_hasKey 0 = .ok (.aload_n 0, 1) := by decide +kernel
theorem dX12_hasKey_1 : decode cX12_hasKey 1 = .ok (.iload_n 1, 1) := by decide +kernel
theorem dX12_hasKey_2 : decode cX12_hasKey 2 = .ok (.aload_n 0, 1) := by decide +kernel
theorem dX12_hasKey_3 : decode cX12_hasKey 3 = .ok (.getfield 33, 3) := by decide +kernel
theorem dX12_hasKey_6 : decode cX12_hasKey 6 = .ok (.bipush 46, 2) := by decide +kernel
theorem dX12_hasKey_8 : decode cX12_hasKey 8 = .ok (.iload_n 2, 1) := by decide +kernel
theorem dX12_hasKey_9 : decode cX12_hasKey 9 = .ok (.iadd, 1) := by decide +kernel
theorem dX12_hasKey_10 : decode cX12_hasKey 10 = .ok (.iaload, 1) := by decide +kernel
theorem dX12_hasKey_11 : decode cX12_hasKey 11 = .ok (.invokevirtual 320, 3) := by decide +kernel
theorem dX12_hasKey_14 : decode cX12_hasKey 14 = .ok (.iload_n 3, 1) := by decide +kernel
theorem dX12_hasKey_15 : decode cX12_hasKey 15 = .ok (.if_icmp .ne 38, 3) := by decide +kernel
theorem dX12_hasKey_18 : decode cX12_hasKey 18 = .ok (.aload_n 0, 1) := by decide +kernel
theorem dX12_hasKey_19 : decode cX12_hasKey 19 = .ok (.getfield 33, 3) := by decide +kernel
theorem dX12_hasKey_22 : decode cX12_hasKey 22 = .ok (.bipush 52, 2) := by decide +kernel
theorem dX12_hasKey_24 : decode cX12_hasKey 24 = .ok (.iload_n 2, 1) := by decide +kernel
theorem dX12_hasKey_25 : decode cX12_hasKey 25 = .ok (.iadd, 1) := by decide +kernel
theorem dX12_hasKey_26 : decode cX12_hasKey 26 = .ok (.iaload, 1) := by decide +kernel
theorem dX12_hasKey_27 : decode cX12_hasKey 27 = .ok (.ifCond .lt 22, 3) := by decide +kernel
theorem dX12_hasKey_30 : decode cX12_hasKey 30 = .ok (.aload_n 0, 1) := by decide +kernel
theorem dX12_hasKey_31 : decode cX12_hasKey 31 = .ok (.iload_n 1, 1) := by decide +kernel
theorem dX12_hasKey_32 : decode cX12_hasKey 32 = .ok (.aload_n 0, 1) := by decide +kernel
theorem dX12_hasKey_33 : decode cX12_hasKey 33 = .ok (.getfield 33, 3) := by decide +kernel
theorem dX12_hasKey_36 : decode cX12_hasKey 36 = .ok (.bipush 52, 2) := by decide +kernel
theorem dX12_hasKey_38 : decode cX12_hasKey 38 = .ok (.iload_n 2, 1) := by decide +kernel
theorem dX12_hasKey_39 : decode cX12_hasKey 39 = .ok (.iadd, 1) := by decide +kernel
theorem dX12_hasKey_40 : decode cX12_hasKey 40 = .ok (.iaload, 1) := by decide +kernel
theorem dX12_hasKey_41 : decode cX12_hasKey 41 = .ok (.invokevirtual 320, 3) := by decide +kernel
theorem dX12_hasKey_44 : decode cX12_hasKey 44 = .ok (.iload 4, 2) := by decide +kernel
theorem dX12_hasKey_46 : decode cX12_hasKey 46 = .ok (.if_icmp .ne 7, 3) := by decide +kernel
theorem dX12_hasKey_49 : decode cX12_hasKey 49 = .ok (.iconst 1, 1) := by decide +kernel
theorem dX12_hasKey_50 : decode cX12_hasKey 50 = .ok (.goto 4, 3) := by decide +kernel
theorem dX12_hasKey_53 : decode cX12_hasKey 53 = .ok (.iconst 0, 1) := by decide +kernel
theorem dX12_hasKey_54 : decode cX12_hasKey 54 = .ok (.ireturn, 1) := by decide +kernel
abbrev M_X12_hasKey : mM := (cX12_hasKey, 5, RX12, some .boolean, false, 1, 22, 0, 0)
theorem gX12_hasKey : cI yX12_hasKey M_X12_hasKey 4 := ⟨(wsl_42 _ (List.mem_of_getElem? (i := 22) rfl)), (wsl_42 _ (List.mem_of_getElem? (i := 23) rfl)), (wsl_1 _ (List.mem_of_getElem? (i := 5) rfl)), (wsl_43 _ (List.mem_of_getElem? (i := 0) rfl)), by decide +kernel⟩
noncomputable def fX12_hasKey_b49 (h : hH) : Option (Int) :=
  some 1
noncomputable def fX12_hasKey (h : hH) (a0 a1 a2 a3 a4 : Int) : Option (Int) :=
  (aget h (h a0 6) (w32 (46 + a2))).bind fun v10 =>
  (fX12_cellOf h a0 a1 v10).bind fun r11 =>
  if r11 = a3 then
    (aget h (h a0 6) (w32 (52 + a2))).bind fun v26 =>
    if v26 < 0 then
      fX12_hasKey_b49 h
    else
      (aget h (h a0 6) (w32 (52 + a2))).bind fun v40 =>
      (fX12_cellOf h a0 a1 v40).bind fun r41 =>
      if r41 = a4 then
        fX12_hasKey_b49 h
      else
        some 0
  else
    some 0
section M_X12_hasKey
variable {p : Program} {l : Launch} {e : Env} {R : Room} {s : State} {m : MethodId} {args : Array Value} {below : List Frame} {meth : Method} {c : Code} {D : va_G} {G : gG} {A : Nat → Prop} {H0 : Heap} {n0 : Int} {x : Option vV × hH} {h : hH}
set_option maxRecDepth 100000 in
set_option maxHeartbeats 4000000 in
theorem oX12_hasKey_b49 {K : Int → Prop} (k0 : ∀ r, K (r) → x = (some (2, r), h)) {r : Int} (hr : fX12_hasKey_b49 h  = some r) (hk : K r) : Wq p l e R s m args below meth c D G A H0 true n0 M_X12_hasKey x 0 0 49 [] [] h := by
  unfold fX12_hasKey_b49 at hr
  refine r_iconst dX12_hasKey_49 (by decide) ?_
  refine r_goto dX12_hasKey_50 (tgt := 54) (by decide) ?_
  refine r_scast 0 (v := (0, 1)) (w := (2, 1)) rfl cz (fun _ => Or.inr rfl) (st' := [(2, 1)]) rfl ?_
  obtain rfl := Option.some.inj hr
  exact r_ret dX12_hasKey_54 rfl (Or.inr ⟨rfl, rfl⟩) (k0 _ hk) ⟨rfl, rfl⟩
set_option maxRecDepth 100000 in
set_option maxHeartbeats 4000000 in
theorem oX12_hasKey_b0 {a0 a1 a2 a3 a4 : Int} {K : Int → Prop} (k0 : ∀ r, K (r) → x = (some (2, r), h)) {r : Int} (hr : fX12_hasKey h a0 a1 a2 a3 a4 = some r) (hk : K r) : Wq p l e R s m args below meth c D G A H0 true n0 M_X12_hasKey x 0 0 0 [(0, (22, a0)), (1, (0, a1)), (2, (0, a2)), (3, (0, a3)), (4, (0, a4))] [] h := by
  unfold fX12_hasKey at hr
  refine r_aload_n dX12_hasKey_0 rfl 0 rfl (nl rfl) ?_
  refine r_iload_n dX12_hasKey_1 rfl 1 rfl (Or.inl rfl) ?_
  refine r_aload_n dX12_hasKey_2 rfl 0 rfl (nl rfl) ?_
  refine r_get 12 6 (o := a0) (w := (50, h a0 6)) (T := TX12) (ref := "FollowingRefsModel") rfl (by decide) rfl (by decide) inlX12 (wsl_7 _ (List.mem_of_getElem? (i := 8) rfl)) rfl dX12_hasKey_3 rfl ?_
  refine r_bipush dX12_hasKey_6 (by decide) (by decide) ?_
  refine r_iload_n dX12_hasKey_8 rfl 2 rfl (Or.inl rfl) ?_
  refine r_iadd dX12_hasKey_9 ?_
  obtain ⟨v10, hg10, hr⟩ := bnd hr
  refine r_iald dX12_hasKey_10 hg10 ?_
  obtain ⟨r11, hg11, hr⟩ := bnd hr
  refine k_V (ci := 12) (o := a0) (T := TX12) (as := [(0, a1), (0, v10)]) (rest := []) (X := (some (0, r11), h)) (oX12_cellOf hg11) gX12_cellOf rfl (by decide) rfl (wsl_42 _ (List.mem_of_getElem? (i := 17) rfl)) rfl dX12_hasKey_11 rfl ?_
  refine r_iload_n dX12_hasKey_14 rfl 3 rfl (Or.inl rfl) ?_
  refine r_icmp_ne dX12_hasKey_15 (tgt := 53) (by decide) (fun hc => ?_) (fun hc => ?_)
  · have hr := ifn hr hc
    refine r_iconst dX12_hasKey_53 (by decide) ?_
    refine r_scast 0 (v := (0, 0)) (w := (2, 0)) rfl cz (fun _ => Or.inl rfl) (st' := [(2, 0)]) rfl ?_
    obtain rfl := Option.some.inj hr
    exact r_ret dX12_hasKey_54 rfl (Or.inr ⟨rfl, rfl⟩) (k0 _ hk) ⟨rfl, rfl⟩
  · have hr := ifp hr hc
    refine r_aload_n dX12_hasKey_18 rfl 0 rfl (nl rfl) ?_
    refine r_get 12 6 (o := a0) (w := (50, h a0 6)) (T := TX12) (ref := "FollowingRefsModel") rfl (by decide) rfl (by decide) inlX12 (wsl_7 _ (List.mem_of_getElem? (i := 8) rfl)) rfl dX12_hasKey_19 rfl ?_
    refine r_bipush dX12_hasKey_22 (by decide) (by decide) ?_
    refine r_iload_n dX12_hasKey_24 rfl 2 rfl (Or.inl rfl) ?_
    refine r_iadd dX12_hasKey_25 ?_
    obtain ⟨v26, hg26, hr⟩ := bnd hr
    refine r_iald dX12_hasKey_26 hg26 ?_
    refine r_if_lt dX12_hasKey_27 (tgt := 49) (by decide) (fun hc => ?_) (fun hc => ?_)
    · have hr := ifp hr hc
      refine r_sub [] (lv' := []) rfl ?_
      exact oX12_hasKey_b49 (K := K) (fun r z => k0 r z) hr hk
    · have hr := ifn hr hc
      refine r_aload_n dX12_hasKey_30 rfl 0 rfl (nl rfl) ?_
      refine r_iload_n dX12_hasKey_31 rfl 1 rfl (Or.inl rfl) ?_
      refine r_aload_n dX12_hasKey_32 rfl 0 rfl (nl rfl) ?_
      refine r_get 12 6 (o := a0) (w := (50, h a0 6)) (T := TX12) (ref := "FollowingRefsModel") rfl (by decide) rfl (by decide) inlX12 (wsl_7 _ (List.mem_of_getElem? (i := 8) rfl)) rfl dX12_hasKey_33 rfl ?_
      refine r_bipush dX12_hasKey_36 (by decide) (by decide) ?_
      refine r_iload_n dX12_hasKey_38 rfl 2 rfl (Or.inl rfl) ?_
      refine r_iadd dX12_hasKey_39 ?_
      obtain ⟨v40, hg40, hr⟩ := bnd hr
      refine r_iald dX12_hasKey_40 hg40 ?_
      obtain ⟨r41, hg41, hr⟩ := bnd hr
      refine k_V (ci := 12) (o := a0) (T := TX12) (as := [(0, a1), (0, v40)]) (rest := []) (X := (some (0, r41), h)) (oX12_cellOf hg41) gX12_cellOf rfl (by decide) rfl (wsl_42 _ (List.mem_of_getElem? (i := 17) rfl)) rfl dX12_hasKey_41 rfl ?_
      refine r_iload dX12_hasKey_44 4 rfl (Or.inl rfl) ?_
      refine r_icmp_ne dX12_hasKey_46 (tgt := 53) (by decide) (fun hc => ?_) (fun hc => ?_)
      · have hr := ifn hr hc
        refine r_iconst dX12_hasKey_53 (by decide) ?_
        refine r_scast 0 (v := (0, 0)) (w := (2, 0)) rfl cz (fun _ => Or.inl rfl) (st' := [(2, 0)]) rfl ?_
        obtain rfl := Option.some.inj hr
        exact r_ret dX12_hasKey_54 rfl (Or.inr ⟨rfl, rfl⟩) (k0 _ hk) ⟨rfl, rfl⟩
      · have hr := ifp hr hc
        refine r_sub [] (lv' := []) rfl ?_
        exact oX12_hasKey_b49 (K := K) (fun r z => k0 r z) hr hk
end M_X12_hasKey
theorem oX12_hasKey {l : Launch} {D : va_G} {G : gG} {h : hH} {a0 a1 a2 a3 a4 : Int} {r : Int} (hr : fX12_hasKey h a0 a1 a2 a3 a4 = some r) : Ctr l D G true yX12_hasKey M_X12_hasKey [(22, a0), (0, a1), (0, a2), (0, a3), (0, a4)] h (some (2, r), h) :=
  Ctr_of (by decide) rfl (fun z => by cases z) (nl rfl) (fun {p e R s m args below meth c A H0} => by
    exact oX12_hasKey_b0 (K := fun z9 => z9 = r) (fun r9 z => by rw [z]) hr rfl)
/-! X12_target -/
theorem dX12_target_0 : decode cX12_target 0 = .ok (.aload_n 0, 1) := by decide +kernel
theorem dX12_target_1 : decode cX12_target 1 = .ok (.iload_n 1, 1) := by decide +kernel
theorem dX12_target_2 : decode cX12_target 2 = .ok (.aload_n 0, 1) := by decide +kernel
theorem dX12_target_3 : decode cX12_target 3 = .ok (.getfield 33, 3) := by decide +kernel
theorem dX12_target_6 : decode cX12_target 6 = .ok (.bipush 64, 2) := by decide +kernel
theorem dX12_target_8 : decode cX12_target 8 = .ok (.iload_n 2, 1) := by decide +kernel
theorem dX12_target_9 : decode cX12_target 9 = .ok (.iadd, 1) := by decide +kernel
theorem dX12_target_10 : decode cX12_target 10 = .ok (.iaload, 1) := by decide +kernel
theorem dX12_target_11 : decode cX12_target 11 = .ok (.invokevirtual 320, 3) := by decide +kernel
theorem dX12_target_14 : decode cX12_target 14 = .ok (.istore_n 3, 1) := by decide +kernel
theorem dX12_target_15 : decode cX12_target 15 = .ok (.aload_n 0, 1) := by decide +kernel
theorem dX12_target_16 : decode cX12_target 16 = .ok (.getfield 33, 3) := by decide +kernel
theorem dX12_target_19 : decode cX12_target 19 = .ok (.bipush 70, 2) := by decide +kernel
theorem dX12_target_21 : decode cX12_target 21 = .ok (.iload_n 2, 1) := by decide +kernel
theorem dX12_target_22 : decode cX12_target 22 = .ok (.iadd, 1) := by decide +kernel
theorem dX12_target_23 : decode cX12_target 23 = .ok (.iaload, 1) := by decide +kernel
theorem dX12_target_24 : decode cX12_target 24 = .ok (.ifCond .ge 7, 3) := by decide +kernel
theorem dX12_target_27 : decode cX12_target 27 = .ok (.iconst 0, 1) := by decide +kernel
theorem dX12_target_28 : decode cX12_target 28 = .ok (.goto 17, 3) := by decide +kernel
theorem dX12_target_31 : decode cX12_target 31 = .ok (.aload_n 0, 1) := by decide +kernel
theorem dX12_target_32 : decode cX12_target 32 = .ok (.iload_n 1, 1) := by decide +kernel
theorem dX12_target_33 : decode cX12_target 33 = .ok (.aload_n 0, 1) := by decide +kernel
theorem dX12_target_34 : decode cX12_target 34 = .ok (.getfield 33, 3) := by decide +kernel
theorem dX12_target_37 : decode cX12_target 37 = .ok (.bipush 70, 2) := by decide +kernel
theorem dX12_target_39 : decode cX12_target 39 = .ok (.iload_n 2, 1) := by decide +kernel
theorem dX12_target_40 : decode cX12_target 40 = .ok (.iadd, 1) := by decide +kernel
theorem dX12_target_41 : decode cX12_target 41 = .ok (.iaload, 1) := by decide +kernel
theorem dX12_target_42 : decode cX12_target 42 = .ok (.invokevirtual 320, 3) := by decide +kernel
theorem dX12_target_45 : decode cX12_target 45 = .ok (.istore 4, 2) := by decide +kernel
theorem dX12_target_47 : decode cX12_target 47 = .ok (.iload_n 3, 1) := by decide +kernel
theorem dX12_target_48 : decode cX12_target 48 = .ok (.ifCond .lt 8, 3) := by decide +kernel
theorem dX12_target_51 : decode cX12_target 51 = .ok (.iload 4, 2) := by decide +kernel
theorem dX12_target_53 : decode cX12_target 53 = .ok (.ifCond .ge 5, 3) := by decide +kernel
theorem dX12_target_56 : decode cX12_target 56 = .ok (.iconst (-1), 1) := by decide +kernel
theorem dX12_target_57 : decode cX12_target 57 = .ok (.ireturn, 1) := by decide +kernel
theorem dX12_target_58 : decode cX12_target 58 = .ok (.iconst 0, 1) := by decide +kernel
theorem dX12_target_59 : decode cX12_target 59 = .ok (.istore 5, 2) := by decide +kernel
theorem dX12_target_61 : decode cX12_target 61 = .ok (.iload 5, 2) := by decide +kernel
theorem dX12_target_63 : decode cX12_target 63 = .ok (.bipush 99, 2) := by decide +kernel
theorem dX12_target_65 : decode cX12_target 65 = .ok (.if_icmp .ge 71, 3) := by decide +kernel
theorem dX12_target_68 : decode cX12_target 68 = .ok (.aload_n 0, 1) := by decide +kernel
theorem dX12_target_69 : decode cX12_target 69 = .ok (.getfield 33, 3) := by decide +kernel
theorem dX12_target_72 : decode cX12_target 72 = .ok (.sipush 150, 3) := by decide +kernel
theorem dX12_target_75 : decode cX12_target 75 = .ok (.iload 5, 2) := by decide +kernel
theorem dX12_target_77 : decode cX12_target 77 = .ok (.iadd, 1) := by decide +kernel
theorem dX12_target_78 : decode cX12_target 78 = .ok (.iaload, 1) := by decide +kernel
theorem dX12_target_79 : decode cX12_target 79 = .ok (.iconst 1, 1) := by decide +kernel
theorem dX12_target_80 : decode cX12_target 80 = .ok (.if_icmp .ne 50, 3) := by decide +kernel
theorem dX12_target_83 : decode cX12_target 83 = .ok (.aload_n 0, 1) := by decide +kernel
theorem dX12_target_84 : decode cX12_target 84 = .ok (.getfield 33, 3) := by decide +kernel
theorem dX12_target_87 : decode cX12_target 87 = .ok (.sipush 249, 3) := by decide +kernel
theorem dX12_target_90 : decode cX12_target 90 = .ok (.iload 5, 2) := by decide +kernel
theorem dX12_target_92 : decode cX12_target 92 = .ok (.iadd, 1) := by decide +kernel
theorem dX12_target_93 : decode cX12_target 93 = .ok (.iaload, 1) := by decide +kernel
theorem dX12_target_94 : decode cX12_target 94 = .ok (.aload_n 0, 1) := by decide +kernel
theorem dX12_target_95 : decode cX12_target 95 = .ok (.getfield 33, 3) := by decide +kernel
theorem dX12_target_98 : decode cX12_target 98 = .ok (.bipush 76, 2) := by decide +kernel
theorem dX12_target_100 : decode cX12_target 100 = .ok (.iload_n 2, 1) := by decide +kernel
theorem dX12_target_101 : decode cX12_target 101 = .ok (.iadd, 1) := by decide +kernel
theorem dX12_target_102 : decode cX12_target 102 = .ok (.iaload, 1) := by decide +kernel
theorem dX12_target_103 : decode cX12_target 103 = .ok (.if_icmp .ne 27, 3) := by decide +kernel
theorem dX12_target_106 : decode cX12_target 106 = .ok (.aload_n 0, 1) := by decide +kernel
theorem dX12_target_107 : decode cX12_target 107 = .ok (.iload 5, 2) := by decide +kernel
theorem dX12_target_109 : decode cX12_target 109 = .ok (.aload_n 0, 1) := by decide +kernel
theorem dX12_target_110 : decode cX12_target 110 = .ok (.getfield 33, 3) := by decide +kernel
theorem dX12_target_113 : decode cX12_target 113 = .ok (.bipush 82, 2) := by decide +kernel
theorem dX12_target_115 : decode cX12_target 115 = .ok (.iload_n 2, 1) := by decide +kernel
theorem dX12_target_116 : decode cX12_target 116 = .ok (.iadd, 1) := by decide +kernel
theorem dX12_target_117 : decode cX12_target 117 = .ok (.iaload, 1) := by decide +kernel
theorem dX12_target_118 : decode cX12_target 118 = .ok (.iload_n 3, 1) := by decide +kernel
theorem dX12_target_119 : decode cX12_target 119 = .ok (.iload 4, 2) := by decide +kernel
theorem dX12_target_121 : decode cX12_target 121 = .ok (.invokevirtual 323, 3) := by decide +kernel
theorem dX12_target_124 : decode cX12_target 124 = .ok (.ifCond .eq 6, 3) := by decide +kernel
theorem dX12_target_127 : decode cX12_target 127 = .ok (.iload 5, 2) := by decide +kernel
theorem dX12_target_129 : decode cX12_target 129 = .ok (.ireturn, 1) := by decide +kernel
theorem dX12_target_130 : decode cX12_target 130 = .ok (.iinc 5 1, 3) := by decide +kernel
theorem dX12_target_133 : decode cX12_target 133 = .ok (.goto (-72), 3) := by decide +kernel
theorem dX12_target_136 : decode cX12_target 136 = .ok (.iconst (-1), 1) := by decide +kernel
theorem dX12_target_137 : decode cX12_target 137 = .ok (.ireturn, 1) := by decide +kernel
abbrev M_X12_target : mM := (cX12_target, 6, RX12, some .int, false, 2, 46, 0, 0)
theorem gX12_target : cI yX12_target M_X12_target 2 := ⟨(wsl_42 _ (List.mem_of_getElem? (i := 14) rfl)), (wsl_42 _ (List.mem_of_getElem? (i := 15) rfl)), (wsl_1 _ (List.mem_of_getElem? (i := 5) rfl)), (wsl_42 _ (List.mem_of_getElem? (i := 16) rfl)), by decide +kernel⟩
noncomputable def fX12_target_s61 (h : hH) (a0 a2 l3 l4 : Int) : Int → Option ((Int) ⊕ (Int)) := fun l5 =>
  if l5 < 99 then
    (aget h (h a0 6) (w32 (150 + l5))).bind fun v78 =>
    if v78 = 1 then
      (aget h (h a0 6) (w32 (249 + l5))).bind fun v93 =>
      (aget h (h a0 6) (w32 (76 + a2))).bind fun v102 =>
      if v93 = v102 then
        (aget h (h a0 6) (w32 (82 + a2))).bind fun v117 =>
        (fX12_hasKey h a0 l5 v117 l3 l4).bind fun r121 =>
        if r121 = 0 then
          some (.inl (w32 (l5 + 1)))
        else
          some (.inr (l5))
      else
        some (.inl (w32 (l5 + 1)))
    else
      some (.inl (w32 (l5 + 1)))
  else
    some (.inr (-1))
noncomputable def fX12_target_b45 (h : hH) (a0 a2 l3 s0 : Int) : Option (Int) :=
  if l3 < 0 then
    some (-1)
  else
    if s0 < 0 then
      some (-1)
    else
      lpO (fX12_target_s61 h a0 a2 l3 s0) 0
noncomputable def fX12_target (h : hH) (a0 a1 a2 : Int) : Option (Int) :=
  (aget h (h a0 6) (w32 (64 + a2))).bind fun v10 =>
  (fX12_cellOf h a0 a1 v10).bind fun r11 =>
  (aget h (h a0 6) (w32 (70 + a2))).bind fun v23 =>
  if v23 < 0 then
    fX12_target_b45 h a0 a2 r11 0
  else
    (aget h (h a0 6) (w32 (70 + a2))).bind fun v41 =>
    (fX12_cellOf h a0 a1 v41).bind fun r42 =>
    fX12_target_b45 h a0 a2 r11 r42
section M_X12_target
variable {p : Program} {l : Launch} {e : Env} {R : Room} {s : State} {m : MethodId} {args : Array Value} {below : List Frame} {meth : Method} {c : Code} {D : va_G} {G : gG} {A : Nat → Prop} {H0 : Heap} {n0 : Int} {x : Option vV × hH} {h : hH}
set_option maxRecDepth 100000 in
set_option maxHeartbeats 4000000 in
theorem oX12_target_s61 {a0 a2 l3 l4 l5 : Int} {K : (Int) ⊕ (Int) → Prop} (k0 : ∀ r, K (.inr (r)) → x = (some (0, r), h)) (k1 : ∀ (l5 : Int), K (.inl l5) → Wq p l e R s m args below meth c D G A H0 true n0 M_X12_target x 0 0 61 [(0, (22, a0)), (2, (0, a2)), (3, (0, l3)), (4, (0, l4)), (5, (0, l5))] [] h) {r : (Int) ⊕ (Int)} (hr : fX12_target_s61 h a0 a2 l3 l4 l5 = some r) (hk : K r) : Wq p l e R s m args below meth c D G A H0 true n0 M_X12_target x 0 0 61 [(0, (22, a0)), (2, (0, a2)), (3, (0, l3)), (4, (0, l4)), (5, (0, l5))] [] h := by
  unfold fX12_target_s61 at hr
  refine r_iload dX12_target_61 4 rfl (Or.inl rfl) ?_
  refine r_bipush dX12_target_63 (by decide) (by decide) ?_
  refine r_icmp_ge dX12_target_65 (tgt := 136) (by decide) (fun hc => ?_) (fun hc => ?_)
  · have hr := ifn hr hc
    refine r_iconst dX12_target_136 (by decide) ?_
    obtain rfl := Option.some.inj hr
    exact r_ret dX12_target_137 rfl (Or.inl ⟨rfl, rfl⟩) (k0 _ hk) ⟨rfl, rfl⟩
  · have hr := ifp hr hc
    refine r_aload_n dX12_target_68 rfl 0 rfl (nl rfl) ?_
    refine r_get 12 6 (o := a0) (w := (50, h a0 6)) (T := TX12) (ref := "FollowingRefsModel") rfl (by decide) rfl (by decide) inlX12 (wsl_7 _ (List.mem_of_getElem? (i := 8) rfl)) rfl dX12_target_69 rfl ?_
    refine r_sipush dX12_target_72 (by decide) (by decide) ?_
    refine r_iload dX12_target_75 4 rfl (Or.inl rfl) ?_
    refine r_iadd dX12_target_77 ?_
    obtain ⟨v78, hg78, hr⟩ := bnd hr
    refine r_iald dX12_target_78 hg78 ?_
    refine r_iconst dX12_target_79 (by decide) ?_
    refine r_icmp_ne dX12_target_80 (tgt := 130) (by decide) (fun hc => ?_) (fun hc => ?_)
    · have hr := ifn hr hc
      refine r_iinc (k := 4) (v := l5) dX12_target_130 rfl (by decide) (lv' := [(5, (0, w32 (l5 + 1))), (0, (22, a0)), (2, (0, a2)), (3, (0, l3)), (4, (0, l4))]) rfl ?_
      refine r_goto dX12_target_133 (tgt := 61) (by decide) ?_
      refine r_sub [1, 2, 3, 4, 0] (lv' := [(0, (22, a0)), (2, (0, a2)), (3, (0, l3)), (4, (0, l4)), (5, (0, w32 (l5 + 1)))]) rfl ?_
      obtain rfl := Option.some.inj hr
      exact k1 _ hk
    · have hr := ifp hr hc
      refine r_aload_n dX12_target_83 rfl 0 rfl (nl rfl) ?_
      refine r_get 12 6 (o := a0) (w := (50, h a0 6)) (T := TX12) (ref := "FollowingRefsModel") rfl (by decide) rfl (by decide) inlX12 (wsl_7 _ (List.mem_of_getElem? (i := 8) rfl)) rfl dX12_target_84 rfl ?_
      refine r_sipush dX12_target_87 (by decide) (by decide) ?_
      refine r_iload dX12_target_90 4 rfl (Or.inl rfl) ?_
      refine r_iadd dX12_target_92 ?_
      obtain ⟨v93, hg93, hr⟩ := bnd hr
      refine r_iald dX12_target_93 hg93 ?_
      refine r_aload_n dX12_target_94 rfl 0 rfl (nl rfl) ?_
      refine r_get 12 6 (o := a0) (w := (50, h a0 6)) (T := TX12) (ref := "FollowingRefsModel") rfl (by decide) rfl (by decide) inlX12 (wsl_7 _ (List.mem_of_getElem? (i := 8) rfl)) rfl dX12_target_95 rfl ?_
      refine r_bipush dX12_target_98 (by decide) (by decide) ?_
      refine r_iload_n dX12_target_100 rfl 1 rfl (Or.inl rfl) ?_
      refine r_iadd dX12_target_101 ?_
      obtain ⟨v102, hg102, hr⟩ := bnd hr
      refine r_iald dX12_target_102 hg102 ?_
      refine r_icmp_ne dX12_target_103 (tgt := 130) (by decide) (fun hc => ?_) (fun hc => ?_)
      · have hr := ifn hr hc
        refine r_iinc (k := 4) (v := l5) dX12_target_130 rfl (by decide) (lv' := [(5, (0, w32 (l5 + 1))), (0, (22, a0)), (2, (0, a2)), (3, (0, l3)), (4, (0, l4))]) rfl ?_
        refine r_goto dX12_target_133 (tgt := 61) (by decide) ?_
        refine r_sub [1, 2, 3, 4, 0] (lv' := [(0, (22, a0)), (2, (0, a2)), (3, (0, l3)), (4, (0, l4)), (5, (0, w32 (l5 + 1)))]) rfl ?_
        obtain rfl := Option.some.inj hr
        exact k1 _ hk
      · have hr := ifp hr hc
        refine r_aload_n dX12_target_106 rfl 0 rfl (nl rfl) ?_
        refine r_iload dX12_target_107 4 rfl (Or.inl rfl) ?_
        refine r_aload_n dX12_target_109 rfl 0 rfl (nl rfl) ?_
        refine r_get 12 6 (o := a0) (w := (50, h a0 6)) (T := TX12) (ref := "FollowingRefsModel") rfl (by decide) rfl (by decide) inlX12 (wsl_7 _ (List.mem_of_getElem? (i := 8) rfl)) rfl dX12_target_110 rfl ?_
        refine r_bipush dX12_target_113 (by decide) (by decide) ?_
        refine r_iload_n dX12_target_115 rfl 1 rfl (Or.inl rfl) ?_
        refine r_iadd dX12_target_116 ?_
        obtain ⟨v117, hg117, hr⟩ := bnd hr
        refine r_iald dX12_target_117 hg117 ?_
        refine r_iload_n dX12_target_118 rfl 2 rfl (Or.inl rfl) ?_
        refine r_iload dX12_target_119 3 rfl (Or.inl rfl) ?_
        obtain ⟨r121, hg121, hr⟩ := bnd hr
        refine k_V (ci := 12) (o := a0) (T := TX12) (as := [(0, l5), (0, v117), (0, l3), (0, l4)]) (rest := []) (X := (some (2, r121), h)) (oX12_hasKey hg121) gX12_hasKey rfl (by decide) rfl (wsl_42 _ (List.mem_of_getElem? (i := 21) rfl)) rfl dX12_target_121 rfl ?_
        refine r_scast 0 (v := (2, r121)) (w := (0, r121)) rfl zc hTz (st' := [(0, r121)]) rfl ?_
        refine r_if_eq dX12_target_124 (tgt := 130) (by decide) (fun hc => ?_) (fun hc => ?_)
        · have hr := ifp hr hc
          refine r_iinc (k := 4) (v := l5) dX12_target_130 rfl (by decide) (lv' := [(5, (0, w32 (l5 + 1))), (0, (22, a0)), (2, (0, a2)), (3, (0, l3)), (4, (0, l4))]) rfl ?_
          refine r_goto dX12_target_133 (tgt := 61) (by decide) ?_
          refine r_sub [1, 2, 3, 4, 0] (lv' := [(0, (22, a0)), (2, (0, a2)), (3, (0, l3)), (4, (0, l4)), (5, (0, w32 (l5 + 1)))]) rfl ?_
          obtain rfl := Option.some.inj hr
          exact k1 _ hk
        · have hr := ifn hr hc
          refine r_iload dX12_target_127 4 rfl (Or.inl rfl) ?_
          obtain rfl := Option.some.inj hr
          exact r_ret dX12_target_129 rfl (Or.inl ⟨rfl, rfl⟩) (k0 _ hk) ⟨rfl, rfl⟩
set_option maxRecDepth 100000 in
set_option maxHeartbeats 4000000 in
theorem oX12_target_b45 {a0 a2 l3 s0 : Int} {K : Int → Prop} (k0 : ∀ r, K (r) → x = (some (0, r), h)) {r : Int} (hr : fX12_target_b45 h a0 a2 l3 s0 = some r) (hk : K r) : Wq p l e R s m args below meth c D G A H0 true n0 M_X12_target x 0 0 45 [(0, (22, a0)), (2, (0, a2)), (3, (0, l3))] [(0, s0)] h := by
  unfold fX12_target_b45 at hr
  refine r_istore dX12_target_45 (Or.inl rfl) (by decide) (lv' := [(4, (0, s0)), (0, (22, a0)), (2, (0, a2)), (3, (0, l3))]) rfl ?_
  refine r_iload_n dX12_target_47 rfl 3 rfl (Or.inl rfl) ?_
  refine r_if_lt dX12_target_48 (tgt := 56) (by decide) (fun hc => ?_) (fun hc => ?_)
  · have hr := ifp hr hc
    refine r_iconst dX12_target_56 (by decide) ?_
    obtain rfl := Option.some.inj hr
    exact r_ret dX12_target_57 rfl (Or.inl ⟨rfl, rfl⟩) (k0 _ hk) ⟨rfl, rfl⟩
  · have hr := ifn hr hc
    refine r_iload dX12_target_51 0 rfl (Or.inl rfl) ?_
    refine r_if_ge dX12_target_53 (tgt := 58) (by decide) (fun hc => ?_) (fun hc => ?_)
    · have hr := ifn hr hc
      refine r_iconst dX12_target_58 (by decide) ?_
      refine r_istore dX12_target_59 (Or.inl rfl) (by decide) (lv' := [(5, (0, 0)), (4, (0, s0)), (0, (22, a0)), (2, (0, a2)), (3, (0, l3))]) rfl ?_
      refine r_sub [2, 3, 4, 1, 0] (lv' := [(0, (22, a0)), (2, (0, a2)), (3, (0, l3)), (4, (0, s0)), (5, (0, 0))]) rfl ?_
      exact lp_ok (w := fun (q : Int) => Wq p l e R s m args below meth c D G A H0 true n0 M_X12_target x 0 0 61 [(0, (22, a0)), (2, (0, a2)), (3, (0, l3)), (4, (0, s0)), (5, (0, q))] [] (h)) (K := K) (fun q r h1 h2 => oX12_target_s61 (K := Sum.elim (fun (q : Int) => Wq p l e R s m args below meth c D G A H0 true n0 M_X12_target x 0 0 61 [(0, (22, a0)), (2, (0, a2)), (3, (0, l3)), (4, (0, s0)), (5, (0, q))] [] (h)) (K)) (fun r z => k0 r z) (fun _ z => z) h1 h2) hr hk
    · have hr := ifp hr hc
      refine r_iconst dX12_target_56 (by decide) ?_
      obtain rfl := Option.some.inj hr
      exact r_ret dX12_target_57 rfl (Or.inl ⟨rfl, rfl⟩) (k0 _ hk) ⟨rfl, rfl⟩
set_option maxRecDepth 100000 in
set_option maxHeartbeats 4000000 in
theorem oX12_target_b0 {a0 a1 a2 : Int} {K : Int → Prop} (k0 : ∀ r, K (r) → x = (some (0, r), h)) {r : Int} (hr : fX12_target h a0 a1 a2 = some r) (hk : K r) : Wq p l e R s m args below meth c D G A H0 true n0 M_X12_target x 0 0 0 [(0, (22, a0)), (1, (0, a1)), (2, (0, a2))] [] h := by
  unfold fX12_target at hr
  refine r_aload_n dX12_target_0 rfl 0 rfl (nl rfl) ?_
  refine r_iload_n dX12_target_1 rfl 1 rfl (Or.inl rfl) ?_
  refine r_aload_n dX12_target_2 rfl 0 rfl (nl rfl) ?_
  refine r_get 12 6 (o := a0) (w := (50, h a0 6)) (T := TX12) (ref := "FollowingRefsModel") rfl (by decide) rfl (by decide) inlX12 (wsl_7 _ (List.mem_of_getElem? (i := 8) rfl)) rfl dX12_target_3 rfl ?_
  refine r_bipush dX12_target_6 (by decide) (by decide) ?_
  refine r_iload_n dX12_target_8 rfl 2 rfl (Or.inl rfl) ?_
  refine r_iadd dX12_target_9 ?_
  obtain ⟨v10, hg10, hr⟩ := bnd hr
  refine r_iald dX12_target_10 hg10 ?_
  obtain ⟨r11, hg11, hr⟩ := bnd hr
  refine k_V (ci := 12) (o := a0) (T := TX12) (as := [(0, a1), (0, v10)]) (rest := []) (X := (some (0, r11), h)) (oX12_cellOf hg11) gX12_cellOf rfl (by decide) rfl (wsl_42 _ (List.mem_of_getElem? (i := 17) rfl)) rfl dX12_target_11 rfl ?_
  refine r_istore_n dX12_target_14 rfl (Or.inl rfl) (by decide) (lv' := [(3, (0, r11)), (0, (22, a0)), (1, (0, a1)), (2, (0, a2))]) rfl ?_
  refine r_aload_n dX12_target_15 rfl 1 rfl (nl rfl) ?_
  refine r_get 12 6 (o := a0) (w := (50, h a0 6)) (T := TX12) (ref := "FollowingRefsModel") rfl (by decide) rfl (by decide) inlX12 (wsl_7 _ (List.mem_of_getElem? (i := 8) rfl)) rfl dX12_target_16 rfl ?_
  refine r_bipush dX12_target_19 (by decide) (by decide) ?_
  refine r_iload_n dX12_target_21 rfl 3 rfl (Or.inl rfl) ?_
  refine r_iadd dX12_target_22 ?_
  obtain ⟨v23, hg23, hr⟩ := bnd hr
  refine r_iald dX12_target_23 hg23 ?_
  refine r_if_ge dX12_target_24 (tgt := 31) (by decide) (fun hc => ?_) (fun hc => ?_)
  · have hr := ifn hr hc
    refine r_aload_n dX12_target_31 rfl 1 rfl (nl rfl) ?_
    refine r_iload_n dX12_target_32 rfl 2 rfl (Or.inl rfl) ?_
    refine r_aload_n dX12_target_33 rfl 1 rfl (nl rfl) ?_
    refine r_get 12 6 (o := a0) (w := (50, h a0 6)) (T := TX12) (ref := "FollowingRefsModel") rfl (by decide) rfl (by decide) inlX12 (wsl_7 _ (List.mem_of_getElem? (i := 8) rfl)) rfl dX12_target_34 rfl ?_
    refine r_bipush dX12_target_37 (by decide) (by decide) ?_
    refine r_iload_n dX12_target_39 rfl 3 rfl (Or.inl rfl) ?_
    refine r_iadd dX12_target_40 ?_
    obtain ⟨v41, hg41, hr⟩ := bnd hr
    refine r_iald dX12_target_41 hg41 ?_
    obtain ⟨r42, hg42, hr⟩ := bnd hr
    refine k_V (ci := 12) (o := a0) (T := TX12) (as := [(0, a1), (0, v41)]) (rest := []) (X := (some (0, r42), h)) (oX12_cellOf hg42) gX12_cellOf rfl (by decide) rfl (wsl_42 _ (List.mem_of_getElem? (i := 17) rfl)) rfl dX12_target_42 rfl ?_
    refine r_sub [1, 3, 0] (lv' := [(0, (22, a0)), (2, (0, a2)), (3, (0, r11))]) rfl ?_
    exact oX12_target_b45 (K := K) (fun r z => k0 r z) hr hk
  · have hr := ifp hr hc
    refine r_iconst dX12_target_27 (by decide) ?_
    refine r_goto dX12_target_28 (tgt := 45) (by decide) ?_
    refine r_sub [1, 3, 0] (lv' := [(0, (22, a0)), (2, (0, a2)), (3, (0, r11))]) rfl ?_
    exact oX12_target_b45 (K := K) (fun r z => k0 r z) hr hk
end M_X12_target
theorem oX12_target {l : Launch} {D : va_G} {G : gG} {h : hH} {a0 a1 a2 : Int} {r : Int} (hr : fX12_target h a0 a1 a2 = some r) : Ctr l D G true yX12_target M_X12_target [(22, a0), (0, a1), (0, a2)] h (some (0, r), h) :=
  Ctr_of (by decide) rfl (fun z => by cases z) (nl rfl) (fun {p e R s m args below meth c A H0} => by
    exact oX12_target_b0 (K := fun z9 => z9 = r) (fun r9 z => by rw [z]) hr rfl)
/-! X12_violates -/
theorem dX12_violates_0 : decode cX12_violates 0 = .ok (.aload_n 0, 1) := by decide +kernel
theorem dX12_violates_1 : decode cX12_violates 1 = .ok (.getfield 53, 3) := by decide +kernel
theorem dX12_violates_4 : decode cX12_violates 4 = .ok (.aload_n 0, 1) := by decide +kernel
theorem dX12_violates_5 : decode cX12_violates 5 = .ok (.getfield 327, 3) := by decide +kernel
theorem dX12_violates_8 : decode cX12_violates 8 = .ok (.iload_n 1, 1) := by decide +kernel
theorem dX12_violates_9 : decode cX12_violates 9 = .ok (.iastore, 1) := by decide +kernel
theorem dX12_violates_10 : decode cX12_violates 10 = .ok (.aload_n 0, 1) := by decide +kernel
theorem dX12_violates_11 : decode cX12_violates 11 = .ok (.getfield 56, 3) := by decide +kernel
theorem dX12_violates_14 : decode cX12_violates 14 = .ok (.aload_n 0, 1) := by decide +kernel
theorem dX12_violates_15 : decode cX12_violates 15 = .ok (.getfield 327, 3) := by decide +kernel
theorem dX12_violates_18 : decode cX12_violates 18 = .ok (.iload_n 2, 1) := by decide +kernel
theorem dX12_violates_19 : decode cX12_violates 19 = .ok (.iastore, 1) := by decide +kernel
theorem dX12_violates_20 : decode cX12_violates 20 = .ok (.aload_n 0, 1) := by decide +kernel
theorem dX12_violates_21 : decode cX12_violates 21 = .ok (.getfield 59, 3) := by decide +kernel
theorem dX12_violates_24 : decode cX12_violates 24 = .ok (.aload_n 0, 1) := by decide +kernel
theorem dX12_violates_25 : decode cX12_violates 25 = .ok (.getfield 327, 3) := by decide +kernel
theorem dX12_violates_28 : decode cX12_violates 28 = .ok (.iload_n 3, 1) := by decide +kernel
theorem dX12_violates_29 : decode cX12_violates 29 = .ok (.iastore, 1) := by decide +kernel
theorem dX12_violates_30 : decode cX12_violates 30 = .ok (.aload_n 0, 1) := by decide +kernel
theorem dX12_violates_31 : decode cX12_violates 31 = .ok (.dup, 1) := by decide +kernel
theorem dX12_violates_32 : decode cX12_violates 32 = .ok (.getfield 327, 3) := by decide +kernel
theorem dX12_violates_35 : decode cX12_violates 35 = .ok (.iconst 1, 1) := by decide +kernel
theorem dX12_violates_36 : decode cX12_violates 36 = .ok (.iadd, 1) := by decide +kernel
theorem dX12_violates_37 : decode cX12_violates 37 = .ok (.putfield 327, 3) := by decide +kernel
theorem dX12_violates_40 : decode cX12_violates 40 = .ok (.return_, 1) := by decide +kernel
abbrev M_X12_violates : mM := (cX12_violates, 4, RX12, none, false, 0, 0, 0, 0)
theorem gX12_violates : cI yX12_violates M_X12_violates 3 := ⟨(wsl_45 _ (List.mem_of_getElem? (i := 17) rfl)), (wsl_45 _ (List.mem_of_getElem? (i := 18) rfl)), (wsl_1 _ (List.mem_of_getElem? (i := 5) rfl)), (wsl_45 _ (List.mem_of_getElem? (i := 19) rfl)), by decide +kernel⟩
noncomputable def fX12_violates (h : hH) (a0 a1 a2 a3 : Int) : Option (hH) :=
  (aput h (h a0 23) (h a0 26) a1).bind fun h9 =>
  (aput h9 (h9 a0 24) (h9 a0 26) a2).bind fun h19 =>
  (aput h19 (h19 a0 25) (h19 a0 26) a3).bind fun h29 =>
  (pput h29 a0 26 (w32 ((h29 a0 26) + 1))).bind fun h37 =>
  some h37
section M_X12_violates
variable {p : Program} {l : Launch} {e : Env} {R : Room} {s : State} {m : MethodId} {args : Array Value} {below : List Frame} {meth : Method} {c : Code} {D : va_G} {G : gG} {A : Nat → Prop} {H0 : Heap} {n0 : Int} {x : Option vV × hH} {h : hH}
set_option maxRecDepth 100000 in
set_option maxHeartbeats 4000000 in
theorem oX12_violates_b0 {a0 a1 a2 a3 : Int} {K : hH → Prop} (k0 : ∀ r, K (r) → x = (none, r)) {r : hH} (hr : fX12_violates h a0 a1 a2 a3 = some r) (hk : K r) : Wq p l e R s m args below meth c D G A H0 true n0 M_X12_violates x 0 0 0 [(0, (22, a0)), (1, (0, a1)), (2, (0, a2)), (3, (0, a3))] [] h := by
  unfold fX12_violates at hr
  refine r_aload_n dX12_violates_0 rfl 0 rfl (nl rfl) ?_
  refine r_get 12 23 (o := a0) (w := (50, h a0 23)) (T := TX12) (ref := "FollowingRefsModel") rfl (by decide) rfl (by decide) inlX12 (wsl_7 _ (List.mem_of_getElem? (i := 14) rfl)) rfl dX12_violates_1 rfl ?_
  refine r_aload_n dX12_violates_4 rfl 0 rfl (nl rfl) ?_
  refine r_get 12 26 (o := a0) (w := (0, h a0 26)) (T := TX12) (ref := "FollowingRefsModel") rfl (by decide) rfl (by decide) inlX12 (wsl_42 _ (List.mem_of_getElem? (i := 7) rfl)) rfl dX12_violates_5 rfl ?_
  refine r_iload_n dX12_violates_8 rfl 1 rfl (Or.inl rfl) ?_
  obtain ⟨h9, hg9, hr⟩ := bnd hr
  refine r_iast dX12_violates_9 hg9 ?_
  refine r_aload_n dX12_violates_10 rfl 0 rfl (nl rfl) ?_
  refine r_get 12 24 (o := a0) (w := (50, h9 a0 24)) (T := TX12) (ref := "FollowingRefsModel") rfl (by decide) rfl (by decide) inlX12 (wsl_7 _ (List.mem_of_getElem? (i := 15) rfl)) rfl dX12_violates_11 rfl ?_
  refine r_aload_n dX12_violates_14 rfl 0 rfl (nl rfl) ?_
  refine r_get 12 26 (o := a0) (w := (0, h9 a0 26)) (T := TX12) (ref := "FollowingRefsModel") rfl (by decide) rfl (by decide) inlX12 (wsl_42 _ (List.mem_of_getElem? (i := 7) rfl)) rfl dX12_violates_15 rfl ?_
  refine r_iload_n dX12_violates_18 rfl 2 rfl (Or.inl rfl) ?_
  obtain ⟨h19, hg19, hr⟩ := bnd hr
  refine r_iast dX12_violates_19 hg19 ?_
  refine r_aload_n dX12_violates_20 rfl 0 rfl (nl rfl) ?_
  refine r_get 12 25 (o := a0) (w := (50, h19 a0 25)) (T := TX12) (ref := "FollowingRefsModel") rfl (by decide) rfl (by decide) inlX12 (wsl_7 _ (List.mem_of_getElem? (i := 16) rfl)) rfl dX12_violates_21 rfl ?_
  refine r_aload_n dX12_violates_24 rfl 0 rfl (nl rfl) ?_
  refine r_get 12 26 (o := a0) (w := (0, h19 a0 26)) (T := TX12) (ref := "FollowingRefsModel") rfl (by decide) rfl (by decide) inlX12 (wsl_42 _ (List.mem_of_getElem? (i := 7) rfl)) rfl dX12_violates_25 rfl ?_
  refine r_iload_n dX12_violates_28 rfl 3 rfl (Or.inl rfl) ?_
  obtain ⟨h29, hg29, hr⟩ := bnd hr
  refine r_iast dX12_violates_29 hg29 ?_
  refine r_aload_n dX12_violates_30 rfl 0 rfl (nl rfl) ?_
  refine r_dup dX12_violates_31 (Nat.ne_of_beq_eq_false rfl) ?_
  refine r_get 12 26 (o := a0) (w := (0, h29 a0 26)) (T := TX12) (ref := "FollowingRefsModel") rfl (by decide) rfl (by decide) inlX12 (wsl_42 _ (List.mem_of_getElem? (i := 7) rfl)) rfl dX12_violates_32 rfl ?_
  refine r_iconst dX12_violates_35 (by decide) ?_
  refine r_iadd dX12_violates_36 ?_
  obtain ⟨h37, hg37, hr⟩ := bnd hr
  refine r_put' 12 26 (t := 0) (ref := "FollowingRefsModel") hg37 rfl tyX12 tyX12_ok nmX12 rfl (by decide) rfl (by decide) inlX12 (wsl_42 _ (List.mem_of_getElem? (i := 7) rfl)) rfl rfl (by decide +kernel) (by decide) rfl (Or.inl ⟨rfl, rfl⟩) dX12_violates_37 ?_
  obtain rfl := Option.some.inj hr
  exact r_vret dX12_violates_40 rfl (k0 _ hk) ⟨rfl, rfl⟩
end M_X12_violates
theorem oX12_violates {l : Launch} {D : va_G} {G : gG} {h : hH} {a0 a1 a2 a3 : Int} {r : hH} (hr : fX12_violates h a0 a1 a2 a3 = some r) : Ctr l D G true yX12_violates M_X12_violates [(22, a0), (0, a1), (0, a2), (0, a3)] h (none, r) :=
  Ctr_of (by decide) rfl (fun z => by cases z) (nl rfl) (fun {p e R s m args below meth c A H0} => by
    exact oX12_violates_b0 (K := fun z9 => z9 = r) (fun r9 z => by rw [z]) hr rfl)
/-! X12_isNeeded -/
theorem dX12_isNeeded_0 : decode cX12_isNeeded 0 = .ok (.aload_n 0, 1) := by decide +kernel
theorem dX12_isNeeded_1 : decode cX12_isNeeded 1 = .ok (.getfield 33, 3) := by decide +kernel
theorem dX12_isNeeded_4 : decode cX12_isNeeded 4 = .ok (.bipush 24, 2) := by decide +kernel
theorem dX12_isNeeded_6 : decode cX12_isNeeded 6 = .ok (.iconst 4, 1) := by decide +kernel
theorem dX12_isNeeded_7 : decode cX12_isNeeded 7 = .ok (.iload_n 1, 1) := by decide +kernel
theorem dX12_isNeeded_8 : decode cX12_isNeeded 8 = .ok (.imul, 1) := by decide +kernel
theorem dX12_isNeeded_9 : decode cX12_isNeeded 9 = .ok (.iadd, 1) := by decide +kernel
theorem dX12_isNeeded_10 : decode cX12_isNeeded 10 = .ok (.iload_n 2, 1) := by decide +kernel
theorem dX12_isNeeded_11 : decode cX12_isNeeded 11 = .ok (.iadd, 1) := by decide +kernel
theorem dX12_isNeeded_12 : decode cX12_isNeeded 12 = .ok (.iaload, 1) := by decide +kernel
theorem dX12_isNeeded_13 : decode cX12_isNeeded 13 = .ok (.iconst 1, 1) := by decide +kernel
theorem dX12_isNeeded_14 : decode cX12_isNeeded 14 = .ok (.if_icmp .ne 7, 3) := by decide +kernel
theorem dX12_isNeeded_17 : decode cX12_isNeeded 17 = .ok (.iconst 1, 1) := by decide +kernel
theorem dX12_isNeeded_18 : decode cX12_isNeeded 18 = .ok (.goto 4, 3) := by decide +kernel
theorem dX12_isNeeded_21 : decode cX12_isNeeded 21 = .ok (.iconst 0, 1) := by decide +kernel
theorem dX12_isNeeded_22 : decode cX12_isNeeded 22 = .ok (.istore_n 3, 1) := by decide +kernel
theorem dX12_isNeeded_23 : decode cX12_isNeeded 23 = .ok (.iconst 0, 1) := by decide +kernel
theorem dX12_isNeeded_24 : decode cX12_isNeeded 24 = .ok (.istore 4, 2) := by decide +kernel
theorem dX12_isNeeded_26 : decode cX12_isNeeded 26 = .ok (.iload 4, 2) := by decide +kernel
theorem dX12_isNeeded_28 : decode cX12_isNeeded 28 = .ok (.aload_n 0, 1) := by decide +kernel
theorem dX12_isNeeded_29 : decode cX12_isNeeded 29 = .ok (.getfield 33, 3) := by decide +kernel
theorem dX12_isNeeded_32 : decode cX12_isNeeded 32 = .ok (.iconst 1, 1) := by decide +kernel
theorem dX12_isNeeded_33 : decode cX12_isNeeded 33 = .ok (.iaload, 1) := by decide +kernel
theorem dX12_isNeeded_34 : decode cX12_isNeeded 34 = .ok (.if_icmp .ge 61, 3) := by decide +kernel
theorem dX12_isNeeded_37 : decode cX12_isNeeded 37 = .ok (.iload_n 3, 1) := by decide +kernel
theorem dX12_isNeeded_38 : decode cX12_isNeeded 38 = .ok (.ifCond .ne 45, 3) := by decide +kernel
theorem dX12_isNeeded_41 : decode cX12_isNeeded 41 = .ok (.aload_n 0, 1) := by decide +kernel
theorem dX12_isNeeded_42 : decode cX12_isNeeded 42 = .ok (.getfield 33, 3) := by decide +kernel
theorem dX12_isNeeded_45 : decode cX12_isNeeded 45 = .ok (.bipush 40, 2) := by decide +kernel
theorem dX12_isNeeded_47 : decode cX12_isNeeded 47 = .ok (.iload 4, 2) := by decide +kernel
theorem dX12_isNeeded_49 : decode cX12_isNeeded 49 = .ok (.iadd, 1) := by decide +kernel
theorem dX12_isNeeded_50 : decode cX12_isNeeded 50 = .ok (.iaload, 1) := by decide +kernel
theorem dX12_isNeeded_51 : decode cX12_isNeeded 51 = .ok (.iload_n 1, 1) := by decide +kernel
theorem dX12_isNeeded_52 : decode cX12_isNeeded 52 = .ok (.if_icmp .ne 35, 3) := by decide +kernel
theorem dX12_isNeeded_55 : decode cX12_isNeeded 55 = .ok (.aload_n 0, 1) := by decide +kernel
theorem dX12_isNeeded_56 : decode cX12_isNeeded 56 = .ok (.getfield 33, 3) := by decide +kernel
theorem dX12_isNeeded_59 : decode cX12_isNeeded 59 = .ok (.bipush 46, 2) := by decide +kernel
theorem dX12_isNeeded_61 : decode cX12_isNeeded 61 = .ok (.iload 4, 2) := by decide +kernel
theorem dX12_isNeeded_63 : decode cX12_isNeeded 63 = .ok (.iadd, 1) := by decide +kernel
theorem dX12_isNeeded_64 : decode cX12_isNeeded 64 = .ok (.iaload, 1) := by decide +kernel
theorem dX12_isNeeded_65 : decode cX12_isNeeded 65 = .ok (.iload_n 2, 1) := by decide +kernel
theorem dX12_isNeeded_66 : decode cX12_isNeeded 66 = .ok (.if_icmp .eq 17, 3) := by decide +kernel
theorem dX12_isNeeded_69 : decode cX12_isNeeded 69 = .ok (.aload_n 0, 1) := by decide +kernel
theorem dX12_isNeeded_70 : decode cX12_isNeeded 70 = .ok (.getfield 33, 3) := by decide +kernel
theorem dX12_isNeeded_73 : decode cX12_isNeeded 73 = .ok (.bipush 52, 2) := by decide +kernel
theorem dX12_isNeeded_75 : decode cX12_isNeeded 75 = .ok (.iload 4, 2) := by decide +kernel
theorem dX12_isNeeded_77 : decode cX12_isNeeded 77 = .ok (.iadd, 1) := by decide +kernel
theorem dX12_isNeeded_78 : decode cX12_isNeeded 78 = .ok (.iaload, 1) := by decide +kernel
theorem dX12_isNeeded_79 : decode cX12_isNeeded 79 = .ok (.iload_n 2, 1) := by decide +kernel
theorem dX12_isNeeded_80 : decode cX12_isNeeded 80 = .ok (.if_icmp .ne 7, 3) := by decide +kernel
theorem dX12_isNeeded_83 : decode cX12_isNeeded 83 = .ok (.iconst 1, 1) := by decide +kernel
theorem dX12_isNeeded_84 : decode cX12_isNeeded 84 = .ok (.goto 4, 3) := by decide +kernel
theorem dX12_isNeeded_87 : decode cX12_isNeeded 87 = .ok (.iconst 0, 1) := by decide +kernel
theorem dX12_isNeeded_88 : decode cX12_isNeeded 88 = .ok (.istore_n 3, 1) := by decide +kernel
theorem dX12_isNeeded_89 : decode cX12_isNeeded 89 = .ok (.iinc 4 1, 3) := by decide +kernel
theorem dX12_isNeeded_92 : decode cX12_isNeeded 92 = .ok (.goto (-66), 3) := by decide +kernel
theorem dX12_isNeeded_95 : decode cX12_isNeeded 95 = .ok (.iload_n 3, 1) := by decide +kernel
theorem dX12_isNeeded_96 : decode cX12_isNeeded 96 = .ok (.ireturn, 1) := by decide +kernel
abbrev M_X12_isNeeded : mM := (cX12_isNeeded, 5, RX12, some .boolean, false, 0, 0, 0, 0)
theorem gX12_isNeeded : cI yX12_isNeeded M_X12_isNeeded 2 := ⟨(wsl_45 _ (List.mem_of_getElem? (i := 13) rfl)), (wsl_45 _ (List.mem_of_getElem? (i := 14) rfl)), (wsl_1 _ (List.mem_of_getElem? (i := 5) rfl)), (wsl_45 _ (List.mem_of_getElem? (i := 15) rfl)), by decide +kernel⟩
noncomputable def fX12_isNeeded_b83 (h : hH) (a0 a1 a2 l4 : Int) : Option ((Int × Int) ⊕ (Int)) :=
  some (.inl (1, w32 (l4 + 1)))
noncomputable def fX12_isNeeded_s26 (h : hH) (a0 a1 a2 : Int) : Int × Int → Option ((Int × Int) ⊕ (Int)) := fun (l3, l4) =>
  (aget h (h a0 6) 1).bind fun v33 =>
  if l4 < v33 then
    if l3 = 0 then
      (aget h (h a0 6) (w32 (40 + l4))).bind fun v50 =>
      if v50 = a1 then
        (aget h (h a0 6) (w32 (46 + l4))).bind fun v64 =>
        if v64 = a2 then
          fX12_isNeeded_b83 h a0 a1 a2 l4
        else
          (aget h (h a0 6) (w32 (52 + l4))).bind fun v78 =>
          if v78 = a2 then
            fX12_isNeeded_b83 h a0 a1 a2 l4
          else
            some (.inl (0, w32 (l4 + 1)))
      else
        some (.inl (0, w32 (l4 + 1)))
    else
      fX12_isNeeded_b83 h a0 a1 a2 l4
  else
    some (.inr (l3))
noncomputable def fX12_isNeeded_b22 (h : hH) (a0 a1 a2 s0 : Int) : Option (Int) :=
  lpO (fX12_isNeeded_s26 h a0 a1 a2) (s0, 0)
noncomputable def fX12_isNeeded (h : hH) (a0 a1 a2 : Int) : Option (Int) :=
  (aget h (h a0 6) (w32 ((w32 (24 + (w32 (4 * a1)))) + a2))).bind fun v12 =>
  if v12 = 1 then
    fX12_isNeeded_b22 h a0 a1 a2 1
  else
    fX12_isNeeded_b22 h a0 a1 a2 0
section M_X12_isNeeded
variable {p : Program} {l : Launch} {e : Env} {R : Room} {s : State} {m : MethodId} {args : Array Value} {below : List Frame} {meth : Method} {c : Code} {D : va_G} {G : gG} {A : Nat → Prop} {H0 : Heap} {n0 : Int} {x : Option vV × hH} {h : hH}
set_option maxRecDepth 100000 in
set_option maxHeartbeats 4000000 in
theorem oX12_isNeeded_b83 {a0 a1 a2 l4 : Int} {K : (Int × Int) ⊕ (Int) → Prop} (k0 : ∀ r, K (.inr (r)) → x = (some (2, r), h)) (k1 : ∀ (l3 : Int) (l4 : Int), K (.inl (l3, l4)) → Wq p l e R s m args below meth c D G A H0 true n0 M_X12_isNeeded x 0 0 26 [(0, (22, a0)), (1, (0, a1)), (2, (0, a2)), (3, (2, l3)), (4, (0, l4))] [] h) {r : (Int × Int) ⊕ (Int)} (hr : fX12_isNeeded_b83 h a0 a1 a2 l4 = some r) (hk : K r) : Wq p l e R s m args below meth c D G A H0 true n0 M_X12_isNeeded x 0 0 83 [(0, (22, a0)), (1, (0, a1)), (2, (0, a2)), (4, (0, l4))] [] h := by
  unfold fX12_isNeeded_b83 at hr
  refine r_iconst dX12_isNeeded_83 (by decide) ?_
  refine r_goto dX12_isNeeded_84 (tgt := 88) (by decide) ?_
  refine r_istore_n dX12_isNeeded_88 rfl (Or.inl rfl) (by decide) (lv' := [(3, (0, 1)), (0, (22, a0)), (1, (0, a1)), (2, (0, a2)), (4, (0, l4))]) rfl ?_
  refine r_iinc (k := 4) (v := l4) dX12_isNeeded_89 rfl (by decide) (lv' := [(4, (0, w32 (l4 + 1))), (3, (0, 1)), (0, (22, a0)), (1, (0, a1)), (2, (0, a2))]) rfl ?_
  refine r_goto dX12_isNeeded_92 (tgt := 26) (by decide) ?_
  refine r_lcast 1 (v := (0, 1)) (w := (2, 1)) rfl cz (fun _ => Or.inr rfl) (lv' := [(4, (0, w32 (l4 + 1))), (3, (2, 1)), (0, (22, a0)), (1, (0, a1)), (2, (0, a2))]) rfl ?_
  refine r_sub [2, 3, 4, 1, 0] (lv' := [(0, (22, a0)), (1, (0, a1)), (2, (0, a2)), (3, (2, 1)), (4, (0, w32 (l4 + 1)))]) rfl ?_
  obtain rfl := Option.some.inj hr
  exact k1 _ _ hk
set_option maxRecDepth 100000 in
set_option maxHeartbeats 4000000 in
theorem oX12_isNeeded_s26 {a0 a1 a2 l3 l4 : Int} {K : (Int × Int) ⊕ (Int) → Prop} (k0 : ∀ r, K (.inr (r)) → x = (some (2, r), h)) (k1 : ∀ (l3 : Int) (l4 : Int), K (.inl (l3, l4)) → Wq p l e R s m args below meth c D G A H0 true n0 M_X12_isNeeded x 0 0 26 [(0, (22, a0)), (1, (0, a1)), (2, (0, a2)), (3, (2, l3)), (4, (0, l4))] [] h) {r : (Int × Int) ⊕ (Int)} (hr : fX12_isNeeded_s26 h a0 a1 a2 (l3, l4) = some r) (hk : K r) : Wq p l e R s m args below meth c D G A H0 true n0 M_X12_isNeeded x 0 0 26 [(0, (22, a0)), (1, (0, a1)), (2, (0, a2)), (3, (2, l3)), (4, (0, l4))] [] h := by
  unfold fX12_isNeeded_s26 at hr
  refine r_iload dX12_isNeeded_26 4 rfl (Or.inl rfl) ?_
  refine r_aload_n dX12_isNeeded_28 rfl 0 rfl (nl rfl) ?_
  refine r_get 12 6 (o := a0) (w := (50, h a0 6)) (T := TX12) (ref := "FollowingRefsModel") rfl (by decide) rfl (by decide) inlX12 (wsl_7 _ (List.mem_of_getElem? (i := 8) rfl)) rfl dX12_isNeeded_29 rfl ?_
  refine r_iconst dX12_isNeeded_32 (by decide) ?_
  obtain ⟨v33, hg33, hr⟩ := bnd hr
  refine r_iald dX12_isNeeded_33 hg33 ?_
  refine r_icmp_ge dX12_isNeeded_34 (tgt := 95) (by decide) (fun hc => ?_) (fun hc => ?_)
  · have hr := ifn hr hc
    refine r_iload_n dX12_isNeeded_95 rfl 3 rfl (Or.inr rfl) ?_
    obtain rfl := Option.some.inj hr
    exact r_ret dX12_isNeeded_96 rfl (Or.inr ⟨rfl, rfl⟩) (k0 _ hk) ⟨rfl, rfl⟩
  · have hr := ifp hr hc
    refine r_iload_n dX12_isNeeded_37 rfl 3 rfl (Or.inr rfl) ?_
    refine r_scast 0 (v := (2, l3)) (w := (0, l3)) rfl zc hTz (st' := [(0, l3)]) rfl ?_
    refine r_if_ne dX12_isNeeded_38 (tgt := 83) (by decide) (fun hc => ?_) (fun hc => ?_)
    · have hr := ifn hr hc
      refine r_sub [0, 1, 2, 4] (lv' := [(0, (22, a0)), (1, (0, a1)), (2, (0, a2)), (4, (0, l4))]) rfl ?_
      exact oX12_isNeeded_b83 (K := K) (fun r z => k0 r z) (fun _ _ z => k1 _ _ z) hr hk
    · have hr := ifp hr hc
      refine r_aload_n dX12_isNeeded_41 rfl 0 rfl (nl rfl) ?_
      refine r_get 12 6 (o := a0) (w := (50, h a0 6)) (T := TX12) (ref := "FollowingRefsModel") rfl (by decide) rfl (by decide) inlX12 (wsl_7 _ (List.mem_of_getElem? (i := 8) rfl)) rfl dX12_isNeeded_42 rfl ?_
      refine r_bipush dX12_isNeeded_45 (by decide) (by decide) ?_
      refine r_iload dX12_isNeeded_47 4 rfl (Or.inl rfl) ?_
      refine r_iadd dX12_isNeeded_49 ?_
      obtain ⟨v50, hg50, hr⟩ := bnd hr
      refine r_iald dX12_isNeeded_50 hg50 ?_
      refine r_iload_n dX12_isNeeded_51 rfl 1 rfl (Or.inl rfl) ?_
      refine r_icmp_ne dX12_isNeeded_52 (tgt := 87) (by decide) (fun hc => ?_) (fun hc => ?_)
      · have hr := ifn hr hc
        refine r_iconst dX12_isNeeded_87 (by decide) ?_
        refine r_istore_n dX12_isNeeded_88 rfl (Or.inl rfl) (by decide) (lv' := [(3, (0, 0)), (0, (22, a0)), (1, (0, a1)), (2, (0, a2)), (4, (0, l4))]) rfl ?_
        refine r_iinc (k := 4) (v := l4) dX12_isNeeded_89 rfl (by decide) (lv' := [(4, (0, w32 (l4 + 1))), (3, (0, 0)), (0, (22, a0)), (1, (0, a1)), (2, (0, a2))]) rfl ?_
        refine r_goto dX12_isNeeded_92 (tgt := 26) (by decide) ?_
        refine r_lcast 1 (v := (0, 0)) (w := (2, 0)) rfl cz (fun _ => Or.inl rfl) (lv' := [(4, (0, w32 (l4 + 1))), (3, (2, 0)), (0, (22, a0)), (1, (0, a1)), (2, (0, a2))]) rfl ?_
        refine r_sub [2, 3, 4, 1, 0] (lv' := [(0, (22, a0)), (1, (0, a1)), (2, (0, a2)), (3, (2, 0)), (4, (0, w32 (l4 + 1)))]) rfl ?_
        obtain rfl := Option.some.inj hr
        exact k1 _ _ hk
      · have hr := ifp hr hc
        refine r_aload_n dX12_isNeeded_55 rfl 0 rfl (nl rfl) ?_
        refine r_get 12 6 (o := a0) (w := (50, h a0 6)) (T := TX12) (ref := "FollowingRefsModel") rfl (by decide) rfl (by decide) inlX12 (wsl_7 _ (List.mem_of_getElem? (i := 8) rfl)) rfl dX12_isNeeded_56 rfl ?_
        refine r_bipush dX12_isNeeded_59 (by decide) (by decide) ?_
        refine r_iload dX12_isNeeded_61 4 rfl (Or.inl rfl) ?_
        refine r_iadd dX12_isNeeded_63 ?_
        obtain ⟨v64, hg64, hr⟩ := bnd hr
        refine r_iald dX12_isNeeded_64 hg64 ?_
        refine r_iload_n dX12_isNeeded_65 rfl 2 rfl (Or.inl rfl) ?_
        refine r_icmp_eq dX12_isNeeded_66 (tgt := 83) (by decide) (fun hc => ?_) (fun hc => ?_)
        · have hr := ifp hr hc
          refine r_sub [0, 1, 2, 4] (lv' := [(0, (22, a0)), (1, (0, a1)), (2, (0, a2)), (4, (0, l4))]) rfl ?_
          exact oX12_isNeeded_b83 (K := K) (fun r z => k0 r z) (fun _ _ z => k1 _ _ z) hr hk
        · have hr := ifn hr hc
          refine r_aload_n dX12_isNeeded_69 rfl 0 rfl (nl rfl) ?_
          refine r_get 12 6 (o := a0) (w := (50, h a0 6)) (T := TX12) (ref := "FollowingRefsModel") rfl (by decide) rfl (by decide) inlX12 (wsl_7 _ (List.mem_of_getElem? (i := 8) rfl)) rfl dX12_isNeeded_70 rfl ?_
          refine r_bipush dX12_isNeeded_73 (by decide) (by decide) ?_
          refine r_iload dX12_isNeeded_75 4 rfl (Or.inl rfl) ?_
          refine r_iadd dX12_isNeeded_77 ?_
          obtain ⟨v78, hg78, hr⟩ := bnd hr
          refine r_iald dX12_isNeeded_78 hg78 ?_
          refine r_iload_n dX12_isNeeded_79 rfl 2 rfl (Or.inl rfl) ?_
          refine r_icmp_ne dX12_isNeeded_80 (tgt := 87) (by decide) (fun hc => ?_) (fun hc => ?_)
          · have hr := ifn hr hc
            refine r_iconst dX12_isNeeded_87 (by decide) ?_
            refine r_istore_n dX12_isNeeded_88 rfl (Or.inl rfl) (by decide) (lv' := [(3, (0, 0)), (0, (22, a0)), (1, (0, a1)), (2, (0, a2)), (4, (0, l4))]) rfl ?_
            refine r_iinc (k := 4) (v := l4) dX12_isNeeded_89 rfl (by decide) (lv' := [(4, (0, w32 (l4 + 1))), (3, (0, 0)), (0, (22, a0)), (1, (0, a1)), (2, (0, a2))]) rfl ?_
            refine r_goto dX12_isNeeded_92 (tgt := 26) (by decide) ?_
            refine r_lcast 1 (v := (0, 0)) (w := (2, 0)) rfl cz (fun _ => Or.inl rfl) (lv' := [(4, (0, w32 (l4 + 1))), (3, (2, 0)), (0, (22, a0)), (1, (0, a1)), (2, (0, a2))]) rfl ?_
            refine r_sub [2, 3, 4, 1, 0] (lv' := [(0, (22, a0)), (1, (0, a1)), (2, (0, a2)), (3, (2, 0)), (4, (0, w32 (l4 + 1)))]) rfl ?_
            obtain rfl := Option.some.inj hr
            exact k1 _ _ hk
          · have hr := ifp hr hc
            refine r_sub [0, 1, 2, 4] (lv' := [(0, (22, a0)), (1, (0, a1)), (2, (0, a2)), (4, (0, l4))]) rfl ?_
            exact oX12_isNeeded_b83 (K := K) (fun r z => k0 r z) (fun _ _ z => k1 _ _ z) hr hk
set_option maxRecDepth 100000 in
set_option maxHeartbeats 4000000 in
theorem oX12_isNeeded_b22 {a0 a1 a2 s0 : Int} {K : Int → Prop} (k0 : ∀ r, K (r) → x = (some (2, r), h)) {r : Int} (hr : fX12_isNeeded_b22 h a0 a1 a2 s0 = some r) (hk : K r) : Wq p l e R s m args below meth c D G A H0 true n0 M_X12_isNeeded x 0 0 22 [(0, (22, a0)), (1, (0, a1)), (2, (0, a2))] [(2, s0)] h := by
  unfold fX12_isNeeded_b22 at hr
  refine r_istore_n dX12_isNeeded_22 rfl (Or.inr rfl) (by decide) (lv' := [(3, (2, s0)), (0, (22, a0)), (1, (0, a1)), (2, (0, a2))]) rfl ?_
  refine r_iconst dX12_isNeeded_23 (by decide) ?_
  refine r_istore dX12_isNeeded_24 (Or.inl rfl) (by decide) (lv' := [(4, (0, 0)), (3, (2, s0)), (0, (22, a0)), (1, (0, a1)), (2, (0, a2))]) rfl ?_
  refine r_sub [2, 3, 4, 1, 0] (lv' := [(0, (22, a0)), (1, (0, a1)), (2, (0, a2)), (3, (2, s0)), (4, (0, 0))]) rfl ?_
  exact lp_ok (w := fun (q : Int × Int) => Wq p l e R s m args below meth c D G A H0 true n0 M_X12_isNeeded x 0 0 26 [(0, (22, a0)), (1, (0, a1)), (2, (0, a2)), (3, (2, q.1)), (4, (0, q.2))] [] (h)) (K := K) (fun ⟨q0, q1⟩ r h1 h2 => oX12_isNeeded_s26 (K := Sum.elim (fun (q : Int × Int) => Wq p l e R s m args below meth c D G A H0 true n0 M_X12_isNeeded x 0 0 26 [(0, (22, a0)), (1, (0, a1)), (2, (0, a2)), (3, (2, q.1)), (4, (0, q.2))] [] (h)) (K)) (fun r z => k0 r z) (fun _ _ z => z) h1 h2) hr hk
set_option maxRecDepth 100000 in
set_option maxHeartbeats 4000000 in
theorem oX12_isNeeded_b0 {a0 a1 a2 : Int} {K : Int → Prop} (k0 : ∀ r, K (r) → x = (some (2, r), h)) {r : Int} (hr : fX12_isNeeded h a0 a1 a2 = some r) (hk : K r) : Wq p l e R s m args below meth c D G A H0 true n0 M_X12_isNeeded x 0 0 0 [(0, (22, a0)), (1, (0, a1)), (2, (0, a2))] [] h := by
  unfold fX12_isNeeded at hr
  refine r_aload_n dX12_isNeeded_0 rfl 0 rfl (nl rfl) ?_
  refine r_get 12 6 (o := a0) (w := (50, h a0 6)) (T := TX12) (ref := "FollowingRefsModel") rfl (by decide) rfl (by decide) inlX12 (wsl_7 _ (List.mem_of_getElem? (i := 8) rfl)) rfl dX12_isNeeded_1 rfl ?_
  refine r_bipush dX12_isNeeded_4 (by decide) (by decide) ?_
  refine r_iconst dX12_isNeeded_6 (by decide) ?_
  refine r_iload_n dX12_isNeeded_7 rfl 1 rfl (Or.inl rfl) ?_
  refine r_imul dX12_isNeeded_8 ?_
  refine r_iadd dX12_isNeeded_9 ?_
  refine r_iload_n dX12_isNeeded_10 rfl 2 rfl (Or.inl rfl) ?_
  refine r_iadd dX12_isNeeded_11 ?_
  obtain ⟨v12, hg12, hr⟩ := bnd hr
  refine r_iald dX12_isNeeded_12 hg12 ?_
  refine r_iconst dX12_isNeeded_13 (by decide) ?_
  refine r_icmp_ne dX12_isNeeded_14 (tgt := 21) (by decide) (fun hc => ?_) (fun hc => ?_)
  · have hr := ifn hr hc
    refine r_iconst dX12_isNeeded_21 (by decide) ?_
    refine r_scast 0 (v := (0, 0)) (w := (2, 0)) rfl cz (fun _ => Or.inl rfl) (st' := [(2, 0)]) rfl ?_
    exact oX12_isNeeded_b22 (K := K) (fun r z => k0 r z) hr hk
  · have hr := ifp hr hc
    refine r_iconst dX12_isNeeded_17 (by decide) ?_
    refine r_goto dX12_isNeeded_18 (tgt := 22) (by decide) ?_
    refine r_scast 0 (v := (0, 1)) (w := (2, 1)) rfl cz (fun _ => Or.inr rfl) (st' := [(2, 1)]) rfl ?_
    exact oX12_isNeeded_b22 (K := K) (fun r z => k0 r z) hr hk
end M_X12_isNeeded
theorem oX12_isNeeded {l : Launch} {D : va_G} {G : gG} {h : hH} {a0 a1 a2 : Int} {r : Int} (hr : fX12_isNeeded h a0 a1 a2 = some r) : Ctr l D G true yX12_isNeeded M_X12_isNeeded [(22, a0), (0, a1), (0, a2)] h (some (2, r), h) :=
  Ctr_of (by decide) rfl (fun z => by cases z) (nl rfl) (fun {p e R s m args below meth c A H0} => by
    exact oX12_isNeeded_b0 (K := fun z9 => z9 = r) (fun r9 z => by rw [z]) hr rfl)
/-! X12_isRowOf -/
theorem dX12_isRowOf_0 : decode cX12_isRowOf 0 = .ok (.aload_n 0, 1) := by decide +kernel
theorem dX12_isRowOf_1 : decode cX12_isRowOf 1 = .ok (.getfield 33, 3) := by decide +kernel
theorem dX12_isRowOf_4 : decode cX12_isRowOf 4 = .ok (.sipush 150, 3) := by decide +kernel
theorem dX12_isRowOf_7 : decode cX12_isRowOf 7 = .ok (.iload_n 1, 1) := by decide +kernel
theorem dX12_isRowOf_8 : decode cX12_isRowOf 8 = .ok (.iadd, 1) := by decide +kernel
theorem dX12_isRowOf_9 : decode cX12_isRowOf 9 = .ok (.iaload, 1) := by decide +kernel
theorem dX12_isRowOf_10 : decode cX12_isRowOf 10 = .ok (.iconst 1, 1) := by decide +kernel
theorem dX12_isRowOf_11 : decode cX12_isRowOf 11 = .ok (.if_icmp .ne 21, 3) := by decide +kernel
theorem dX12_isRowOf_14 : decode cX12_isRowOf 14 = .ok (.aload_n 0, 1) := by decide +kernel
theorem dX12_isRowOf_15 : decode cX12_isRowOf 15 = .ok (.getfield 33, 3) := by decide +kernel
theorem dX12_isRowOf_18 : decode cX12_isRowOf 18 = .ok (.sipush 249, 3) := by decide +kernel
theorem dX12_isRowOf_21 : decode cX12_isRowOf 21 = .ok (.iload_n 1, 1) := by decide +kernel
theorem dX12_isRowOf_22 : decode cX12_isRowOf 22 = .ok (.iadd, 1) := by decide +kernel
theorem dX12_isRowOf_23 : decode cX12_isRowOf 23 = .ok (.iaload, 1) := by decide +kernel
theorem dX12_isRowOf_24 : decode cX12_isRowOf 24 = .ok (.iload_n 2, 1) := by decide +kernel
theorem dX12_isRowOf_25 : decode cX12_isRowOf 25 = .ok (.if_icmp .ne 7, 3) := by decide +kernel
theorem dX12_isRowOf_28 : decode cX12_isRowOf 28 = .ok (.iconst 1, 1) := by decide +kernel
theorem dX12_isRowOf_29 : decode cX12_isRowOf 29 = .ok (.goto 4, 3) := by decide +kernel
theorem dX12_isRowOf_32 : decode cX12_isRowOf 32 = .ok (.iconst 0, 1) := by decide +kernel
theorem dX12_isRowOf_33 : decode cX12_isRowOf 33 = .ok (.ireturn, 1) := by decide +kernel
abbrev M_X12_isRowOf : mM := (cX12_isRowOf, 3, RX12, some .boolean, false, 0, 0, 0, 0)
theorem gX12_isRowOf : cI yX12_isRowOf M_X12_isRowOf 2 := ⟨(wsl_43 _ (List.mem_of_getElem? (i := 10) rfl)), (wsl_43 _ (List.mem_of_getElem? (i := 11) rfl)), (wsl_1 _ (List.mem_of_getElem? (i := 5) rfl)), (wsl_43 _ (List.mem_of_getElem? (i := 12) rfl)), by decide +kernel⟩
noncomputable def fX12_isRowOf (h : hH) (a0 a1 a2 : Int) : Option (Int) :=
  (aget h (h a0 6) (w32 (150 + a1))).bind fun v9 =>
  if v9 = 1 then
    (aget h (h a0 6) (w32 (249 + a1))).bind fun v23 =>
    if v23 = a2 then
      some 1
    else
      some 0
  else
    some 0
section M_X12_isRowOf
variable {p : Program} {l : Launch} {e : Env} {R : Room} {s : State} {m : MethodId} {args : Array Value} {below : List Frame} {meth : Method} {c : Code} {D : va_G} {G : gG} {A : Nat → Prop} {H0 : Heap} {n0 : Int} {x : Option vV × hH} {h : hH}
set_option maxRecDepth 100000 in
set_option maxHeartbeats 4000000 in
theorem oX12_isRowOf_b0 {a0 a1 a2 : Int} {K : Int → Prop} (k0 : ∀ r, K (r) → x = (some (2, r), h)) {r : Int} (hr : fX12_isRowOf h a0 a1 a2 = some r) (hk : K r) : Wq p l e R s m args below meth c D G A H0 true n0 M_X12_isRowOf x 0 0 0 [(0, (22, a0)), (1, (0, a1)), (2, (0, a2))] [] h := by
  unfold fX12_isRowOf at hr
  refine r_aload_n dX12_isRowOf_0 rfl 0 rfl (nl rfl) ?_
  refine r_get 12 6 (o := a0) (w := (50, h a0 6)) (T := TX12) (ref := "FollowingRefsModel") rfl (by decide) rfl (by decide) inlX12 (wsl_7 _ (List.mem_of_getElem? (i := 8) rfl)) rfl dX12_isRowOf_1 rfl ?_
  refine r_sipush dX12_isRowOf_4 (by decide) (by decide) ?_
  refine r_iload_n dX12_isRowOf_7 rfl 1 rfl (Or.inl rfl) ?_
  refine r_iadd dX12_isRowOf_8 ?_
  obtain ⟨v9, hg9, hr⟩ := bnd hr
  refine r_iald dX12_isRowOf_9 hg9 ?_
  refine r_iconst dX12_isRowOf_10 (by decide) ?_
  refine r_icmp_ne dX12_isRowOf_11 (tgt := 32) (by decide) (fun hc => ?_) (fun hc => ?_)
  · have hr := ifn hr hc
    refine r_iconst dX12_isRowOf_32 (by decide) ?_
    refine r_scast 0 (v := (0, 0)) (w := (2, 0)) rfl cz (fun _ => Or.inl rfl) (st' := [(2, 0)]) rfl ?_
    obtain rfl := Option.some.inj hr
    exact r_ret dX12_isRowOf_33 rfl (Or.inr ⟨rfl, rfl⟩) (k0 _ hk) ⟨rfl, rfl⟩
  · have hr := ifp hr hc
    refine r_aload_n dX12_isRowOf_14 rfl 0 rfl (nl rfl) ?_
    refine r_get 12 6 (o := a0) (w := (50, h a0 6)) (T := TX12) (ref := "FollowingRefsModel") rfl (by decide) rfl (by decide) inlX12 (wsl_7 _ (List.mem_of_getElem? (i := 8) rfl)) rfl dX12_isRowOf_15 rfl ?_
    refine r_sipush dX12_isRowOf_18 (by decide) (by decide) ?_
    refine r_iload_n dX12_isRowOf_21 rfl 1 rfl (Or.inl rfl) ?_
    refine r_iadd dX12_isRowOf_22 ?_
    obtain ⟨v23, hg23, hr⟩ := bnd hr
    refine r_iald dX12_isRowOf_23 hg23 ?_
    refine r_iload_n dX12_isRowOf_24 rfl 2 rfl (Or.inl rfl) ?_
    refine r_icmp_ne dX12_isRowOf_25 (tgt := 32) (by decide) (fun hc => ?_) (fun hc => ?_)
    · have hr := ifn hr hc
      refine r_iconst dX12_isRowOf_32 (by decide) ?_
      refine r_scast 0 (v := (0, 0)) (w := (2, 0)) rfl cz (fun _ => Or.inl rfl) (st' := [(2, 0)]) rfl ?_
      obtain rfl := Option.some.inj hr
      exact r_ret dX12_isRowOf_33 rfl (Or.inr ⟨rfl, rfl⟩) (k0 _ hk) ⟨rfl, rfl⟩
    · have hr := ifp hr hc
      refine r_iconst dX12_isRowOf_28 (by decide) ?_
      refine r_goto dX12_isRowOf_29 (tgt := 33) (by decide) ?_
      refine r_scast 0 (v := (0, 1)) (w := (2, 1)) rfl cz (fun _ => Or.inr rfl) (st' := [(2, 1)]) rfl ?_
      obtain rfl := Option.some.inj hr
      exact r_ret dX12_isRowOf_33 rfl (Or.inr ⟨rfl, rfl⟩) (k0 _ hk) ⟨rfl, rfl⟩
end M_X12_isRowOf
theorem oX12_isRowOf {l : Launch} {D : va_G} {G : gG} {h : hH} {a0 a1 a2 : Int} {r : Int} (hr : fX12_isRowOf h a0 a1 a2 = some r) : Ctr l D G true yX12_isRowOf M_X12_isRowOf [(22, a0), (0, a1), (0, a2)] h (some (2, r), h) :=
  Ctr_of (by decide) rfl (fun z => by cases z) (nl rfl) (fun {p e R s m args below meth c A H0} => by
    exact oX12_isRowOf_b0 (K := fun z9 => z9 = r) (fun r9 z => by rw [z]) hr rfl)
/-! X12_isLikeEarlier -/
theorem dX12_isLikeEarlier_0 : decode cX12_isLikeEarlier 0 = .ok (.aload_n 0, 1) := by decide +kernel
theorem dX12_isLikeEarlier_1 : decode cX12_isLikeEarlier 1 = .ok (.iload_n 1, 1) := by decide +kernel
theorem dX12_isLikeEarlier_2 : decode cX12_isLikeEarlier 2 = .ok (.aload_n 0, 1) := by decide +kernel
theorem dX12_isLikeEarlier_3 : decode cX12_isLikeEarlier 3 = .ok (.getfield 33, 3) := by decide +kernel
theorem dX12_isLikeEarlier_6 : decode cX12_isLikeEarlier 6 = .ok (.bipush 46, 2) := by decide +kernel
theorem dX12_isLikeEarlier_8 : decode cX12_isLikeEarlier 8 = .ok (.iload_n 2, 1) := by decide +kernel
theorem dX12_isLikeEarlier_9 : decode cX12_isLikeEarlier 9 = .ok (.iadd, 1) := by decide +kernel
theorem dX12_isLikeEarlier_10 : decode cX12_isLikeEarlier 10 = .ok (.iaload, 1) := by decide +kernel
theorem dX12_isLikeEarlier_11 : decode cX12_isLikeEarlier 11 = .ok (.invokevirtual 320, 3) := by decide +kernel
theorem dX12_isLikeEarlier_14 : decode cX12_isLikeEarlier 14 = .ok (.istore_n 3, 1) := by decide +kernel
theorem dX12_isLikeEarlier_15 : decode cX12_isLikeEarlier 15 = .ok (.aload_n 0, 1) := by decide +kernel
theorem dX12_isLikeEarlier_16 : decode cX12_isLikeEarlier 16 = .ok (.getfield 33, 3) := by decide +kernel
theorem dX12_isLikeEarlier_19 : decode cX12_isLikeEarlier 19 = .ok (.bipush 52, 2) := by decide +kernel
theorem dX12_isLikeEarlier_21 : decode cX12_isLikeEarlier 21 = .ok (.iload_n 2, 1) := by decide +kernel
theorem dX12_isLikeEarlier_22 : decode cX12_isLikeEarlier 22 = .ok (.iadd, 1) := by decide +kernel
theorem dX12_isLikeEarlier_23 : decode cX12_isLikeEarlier 23 = .ok (.iaload, 1) := by decide +kernel
theorem dX12_isLikeEarlier_24 : decode cX12_isLikeEarlier 24 = .ok (.ifCond .ge 7, 3) := by decide +kernel
theorem dX12_isLikeEarlier_27 : decode cX12_isLikeEarlier 27 = .ok (.iconst 0, 1) := by decide +kernel
theorem dX12_isLikeEarlier_28 : decode cX12_isLikeEarlier 28 = .ok (.goto 17, 3) := by decide +kernel
theorem dX12_isLikeEarlier_31 : decode cX12_isLikeEarlier 31 = .ok (.aload_n 0, 1) := by decide +kernel
theorem dX12_isLikeEarlier_32 : decode cX12_isLikeEarlier 32 = .ok (.iload_n 1, 1) := by decide +kernel
theorem dX12_isLikeEarlier_33 : decode cX12_isLikeEarlier 33 = .ok (.aload_n 0, 1) := by decide +kernel
theorem dX12_isLikeEarlier_34 : decode cX12_isLikeEarlier 34 = .ok (.getfield 33, 3) := by decide +kernel
theorem dX12_isLikeEarlier_37 : decode cX12_isLikeEarlier 37 = .ok (.bipush 52, 2) := by decide +kernel
theorem dX12_isLikeEarlier_39 : decode cX12_isLikeEarlier 39 = .ok (.iload_n 2, 1) := by decide +kernel
theorem dX12_isLikeEarlier_40 : decode cX12_isLikeEarlier 40 = .ok (.iadd, 1) := by decide +kernel
theorem dX12_isLikeEarlier_41 : decode cX12_isLikeEarlier 41 = .ok (.iaload, 1) := by decide +kernel
theorem dX12_isLikeEarlier_42 : decode cX12_isLikeEarlier 42 = .ok (.invokevirtual 320, 3) := by decide +kernel
theorem dX12_isLikeEarlier_45 : decode cX12_isLikeEarlier 45 = .ok (.istore 4, 2) := by decide +kernel
theorem dX12_isLikeEarlier_47 : decode cX12_isLikeEarlier 47 = .ok (.iconst 0, 1) := by decide +kernel
theorem dX12_isLikeEarlier_48 : decode cX12_isLikeEarlier 48 = .ok (.istore 5, 2) := by decide +kernel
theorem dX12_isLikeEarlier_50 : decode cX12_isLikeEarlier 50 = .ok (.iconst 0, 1) := by decide +kernel
theorem dX12_isLikeEarlier_51 : decode cX12_isLikeEarlier 51 = .ok (.istore 6, 2) := by decide +kernel
theorem dX12_isLikeEarlier_53 : decode cX12_isLikeEarlier 53 = .ok (.iload 6, 2) := by decide +kernel
theorem dX12_isLikeEarlier_55 : decode cX12_isLikeEarlier 55 = .ok (.iload_n 1, 1) := by decide +kernel
theorem dX12_isLikeEarlier_56 : decode cX12_isLikeEarlier 56 = .ok (.if_icmp .ge 61, 3) := by decide +kernel
theorem dX12_isLikeEarlier_59 : decode cX12_isLikeEarlier 59 = .ok (.iload_n 3, 1) := by decide +kernel
theorem dX12_isLikeEarlier_60 : decode cX12_isLikeEarlier 60 = .ok (.ifCond .lt 57, 3) := by decide +kernel
theorem dX12_isLikeEarlier_63 : decode cX12_isLikeEarlier 63 = .ok (.iload 4, 2) := by decide +kernel
theorem dX12_isLikeEarlier_65 : decode cX12_isLikeEarlier 65 = .ok (.ifCond .lt 52, 3) := by decide +kernel
theorem dX12_isLikeEarlier_68 : decode cX12_isLikeEarlier 68 = .ok (.iload 5, 2) := by decide +kernel
theorem dX12_isLikeEarlier_70 : decode cX12_isLikeEarlier 70 = .ok (.ifCond .ne 34, 3) := by decide +kernel
theorem dX12_isLikeEarlier_73 : decode cX12_isLikeEarlier 73 = .ok (.aload_n 0, 1) := by decide +kernel
theorem dX12_isLikeEarlier_74 : decode cX12_isLikeEarlier 74 = .ok (.iload 6, 2) := by decide +kernel
theorem dX12_isLikeEarlier_76 : decode cX12_isLikeEarlier 76 = .ok (.aload_n 0, 1) := by decide +kernel
theorem dX12_isLikeEarlier_77 : decode cX12_isLikeEarlier 77 = .ok (.getfield 33, 3) := by decide +kernel
theorem dX12_isLikeEarlier_80 : decode cX12_isLikeEarlier 80 = .ok (.bipush 40, 2) := by decide +kernel
theorem dX12_isLikeEarlier_82 : decode cX12_isLikeEarlier 82 = .ok (.iload_n 2, 1) := by decide +kernel
theorem dX12_isLikeEarlier_83 : decode cX12_isLikeEarlier 83 = .ok (.iadd, 1) := by decide +kernel
theorem dX12_isLikeEarlier_84 : decode cX12_isLikeEarlier 84 = .ok (.iaload, 1) := by decide +kernel
theorem dX12_isLikeEarlier_85 : decode cX12_isLikeEarlier 85 = .ok (.invokevirtual 330, 3) := by decide +kernel
theorem dX12_isLikeEarlier_88 : decode cX12_isLikeEarlier 88 = .ok (.ifCond .eq 20, 3) := by decide +kernel
theorem dX12_isLikeEarlier_91 : decode cX12_isLikeEarlier 91 = .ok (.aload_n 0, 1) := by decide +kernel
theorem dX12_isLikeEarlier_92 : decode cX12_isLikeEarlier 92 = .ok (.iload 6, 2) := by decide +kernel
theorem dX12_isLikeEarlier_94 : decode cX12_isLikeEarlier 94 = .ok (.iload_n 2, 1) := by decide +kernel
theorem dX12_isLikeEarlier_95 : decode cX12_isLikeEarlier 95 = .ok (.iload_n 3, 1) := by decide +kernel
theorem dX12_isLikeEarlier_96 : decode cX12_isLikeEarlier 96 = .ok (.iload 4, 2) := by decide +kernel
theorem dX12_isLikeEarlier_98 : decode cX12_isLikeEarlier 98 = .ok (.invokevirtual 323, 3) := by decide +kernel
theorem dX12_isLikeEarlier_101 : decode cX12_isLikeEarlier 101 = .ok (.ifCond .eq 7, 3) := by decide +kernel
theorem dX12_isLikeEarlier_104 : decode cX12_isLikeEarlier 104 = .ok (.iconst 1, 1) := by decide +kernel
theorem dX12_isLikeEarlier_105 : decode cX12_isLikeEarlier 105 = .ok (.goto 4, 3) := by decide +kernel
theorem dX12_isLikeEarlier_108 : decode cX12_isLikeEarlier 108 = .ok (.iconst 0, 1) := by decide +kernel
theorem dX12_isLikeEarlier_109 : decode cX12_isLikeEarlier 109 = .ok (.istore 5, 2) := by decide +kernel
theorem dX12_isLikeEarlier_111 : decode cX12_isLikeEarlier 111 = .ok (.iinc 6 1, 3) := by decide +kernel
theorem dX12_isLikeEarlier_114 : decode cX12_isLikeEarlier 114 = .ok (.goto (-61), 3) := by decide +kernel
theorem dX12_isLikeEarlier_117 : decode cX12_isLikeEarlier 117 = .ok (.iload 5, 2) := by decide +kernel
theorem dX12_isLikeEarlier_119 : decode cX12_isLikeEarlier 119 = .ok (.ireturn, 1) := by decide +kernel
abbrev M_X12_isLikeEarlier : mM := (cX12_isLikeEarlier, 7, RX12, some .boolean, false, 2, 46, 0, 0)
theorem gX12_isLikeEarlier : cI yX12_isLikeEarlier M_X12_isLikeEarlier 2 := ⟨(wsl_45 _ (List.mem_of_getElem? (i := 21) rfl)), (wsl_45 _ (List.mem_of_getElem? (i := 22) rfl)), (wsl_1 _ (List.mem_of_getElem? (i := 5) rfl)), (wsl_45 _ (List.mem_of_getElem? (i := 23) rfl)), by decide +kernel⟩
noncomputable def fX12_isLikeEarlier_b104 (h : hH) (a0 a1 a2 l3 l4 l6 : Int) : Option ((Int × Int) ⊕ (Int)) :=
  some (.inl (1, w32 (l6 + 1)))
noncomputable def fX12_isLikeEarlier_s53 (h : hH) (a0 a1 a2 l3 l4 : Int) : Int × Int → Option ((Int × Int) ⊕ (Int)) := fun (l5, l6) =>
  if l6 < a1 then
    if l3 < 0 then
      some (.inr (l5))
    else
      if l4 < 0 then
        some (.inr (l5))
      else
        if l5 = 0 then
          (aget h (h a0 6) (w32 (40 + a2))).bind fun v84 =>
          (fX12_isRowOf h a0 l6 v84).bind fun r85 =>
          if r85 = 0 then
            some (.inl (0, w32 (l6 + 1)))
          else
            (fX12_hasKey h a0 l6 a2 l3 l4).bind fun r98 =>
            if r98 = 0 then
              some (.inl (0, w32 (l6 + 1)))
            else
              fX12_isLikeEarlier_b104 h a0 a1 a2 l3 l4 l6
        else
          fX12_isLikeEarlier_b104 h a0 a1 a2 l3 l4 l6
  else
    some (.inr (l5))
noncomputable def fX12_isLikeEarlier_b45 (h : hH) (a0 a1 a2 l3 s0 : Int) : Option (Int) :=
  lpO (fX12_isLikeEarlier_s53 h a0 a1 a2 l3 s0) (0, 0)
noncomputable def fX12_isLikeEarlier (h : hH) (a0 a1 a2 : Int) : Option (Int) :=
  (aget h (h a0 6) (w32 (46 + a2))).bind fun v10 =>
  (fX12_cellOf h a0 a1 v10).bind fun r11 =>
  (aget h (h a0 6) (w32 (52 + a2))).bind fun v23 =>
  if v23 < 0 then
    fX12_isLikeEarlier_b45 h a0 a1 a2 r11 0
  else
    (aget h (h a0 6) (w32 (52 + a2))).bind fun v41 =>
    (fX12_cellOf h a0 a1 v41).bind fun r42 =>
    fX12_isLikeEarlier_b45 h a0 a1 a2 r11 r42
section M_X12_isLikeEarlier
variable {p : Program} {l : Launch} {e : Env} {R : Room} {s : State} {m : MethodId} {args : Array Value} {below : List Frame} {meth : Method} {c : Code} {D : va_G} {G : gG} {A : Nat → Prop} {H0 : Heap} {n0 : Int} {x : Option vV × hH} {h : hH}
set_option maxRecDepth 100000 in
set_option maxHeartbeats 4000000 in
theorem oX12_isLikeEarlier_b104 {a0 a1 a2 l3 l4 l6 : Int} {K : (Int × Int) ⊕ (Int) → Prop} (k0 : ∀ r, K (.inr (r)) → x = (some (2, r), h)) (k1 : ∀ (l5 : Int) (l6 : Int), K (.inl (l5, l6)) → Wq p l e R s m args below meth c D G A H0 true n0 M_X12_isLikeEarlier x 0 0 53 [(0, (22, a0)), (1, (0, a1)), (2, (0, a2)), (3, (0, l3)), (4, (0, l4)), (5, (2, l5)), (6, (0, l6))] [] h) {r : (Int × Int) ⊕ (Int)} (hr : fX12_isLikeEarlier_b104 h a0 a1 a2 l3 l4 l6 = some r) (hk : K r) : Wq p l e R s m args below meth c D G A H0 true n0 M_X12_isLikeEarlier x 0 0 104 [(0, (22, a0)), (1, (0, a1)), (2, (0, a2)), (3, (0, l3)), (4, (0, l4)), (6, (0, l6))] [] h := by
  unfold fX12_isLikeEarlier_b104 at hr
  refine r_iconst dX12_isLikeEarlier_104 (by decide) ?_
  refine r_goto dX12_isLikeEarlier_105 (tgt := 109) (by decide) ?_
  refine r_istore dX12_isLikeEarlier_109 (Or.inl rfl) (by decide) (lv' := [(5, (0, 1)), (0, (22, a0)), (1, (0, a1)), (2, (0, a2)), (3, (0, l3)), (4, (0, l4)), (6, (0, l6))]) rfl ?_
  refine r_iinc (k := 6) (v := l6) dX12_isLikeEarlier_111 rfl (by decide) (lv' := [(6, (0, w32 (l6 + 1))), (5, (0, 1)), (0, (22, a0)), (1, (0, a1)), (2, (0, a2)), (3, (0, l3)), (4, (0, l4))]) rfl ?_
  refine r_goto dX12_isLikeEarlier_114 (tgt := 53) (by decide) ?_
  refine r_lcast 1 (v := (0, 1)) (w := (2, 1)) rfl cz (fun _ => Or.inr rfl) (lv' := [(6, (0, w32 (l6 + 1))), (5, (2, 1)), (0, (22, a0)), (1, (0, a1)), (2, (0, a2)), (3, (0, l3)), (4, (0, l4))]) rfl ?_
  refine r_sub [2, 3, 4, 5, 6, 1, 0] (lv' := [(0, (22, a0)), (1, (0, a1)), (2, (0, a2)), (3, (0, l3)), (4, (0, l4)), (5, (2, 1)), (6, (0, w32 (l6 + 1)))]) rfl ?_
  obtain rfl := Option.some.inj hr
  exact k1 _ _ hk
set_option maxRecDepth 100000 in
set_option maxHeartbeats 4000000 in
theorem oX12_isLikeEarlier_s53 {a0 a1 a2 l3 l4 l5 l6 : Int} {K : (Int × Int) ⊕ (Int) → Prop} (k0 : ∀ r, K (.inr (r)) → x = (some (2, r), h)) (k1 : ∀ (l5 : Int) (l6 : Int), K (.inl (l5, l6)) → Wq p l e R s m args below meth c D G A H0 true n0 M_X12_isLikeEarlier x 0 0 53 [(0, (22, a0)), (1, (0, a1)), (2, (0, a2)), (3, (0, l3)), (4, (0, l4)), (5, (2, l5)), (6, (0, l6))] [] h) {r : (Int × Int) ⊕ (Int)} (hr : fX12_isLikeEarlier_s53 h a0 a1 a2 l3 l4 (l5, l6) = some r) (hk : K r) : Wq p l e R s m args below meth c D G A H0 true n0 M_X12_isLikeEarlier x 0 0 53 [(0, (22, a0)), (1, (0, a1)), (2, (0, a2)), (3, (0, l3)), (4, (0, l4)), (5, (2, l5)), (6, (0, l6))] [] h := by
  unfold fX12_isLikeEarlier_s53 at hr
  refine r_iload dX12_isLikeEarlier_53 6 rfl (Or.inl rfl) ?_
  refine r_iload_n dX12_isLikeEarlier_55 rfl 1 rfl (Or.inl rfl) ?_
  refine r_icmp_ge dX12_isLikeEarlier_56 (tgt := 117) (by decide) (fun hc => ?_) (fun hc => ?_)
  · have hr := ifn hr hc
    refine r_iload dX12_isLikeEarlier_117 5 rfl (Or.inr rfl) ?_
    obtain rfl := Option.some.inj hr
    exact r_ret dX12_isLikeEarlier_119 rfl (Or.inr ⟨rfl, rfl⟩) (k0 _ hk) ⟨rfl, rfl⟩
  · have hr := ifp hr hc
    refine r_iload_n dX12_isLikeEarlier_59 rfl 3 rfl (Or.inl rfl) ?_
    refine r_if_lt dX12_isLikeEarlier_60 (tgt := 117) (by decide) (fun hc => ?_) (fun hc => ?_)
    · have hr := ifp hr hc
      refine r_iload dX12_isLikeEarlier_117 5 rfl (Or.inr rfl) ?_
      obtain rfl := Option.some.inj hr
      exact r_ret dX12_isLikeEarlier_119 rfl (Or.inr ⟨rfl, rfl⟩) (k0 _ hk) ⟨rfl, rfl⟩
    · have hr := ifn hr hc
      refine r_iload dX12_isLikeEarlier_63 4 rfl (Or.inl rfl) ?_
      refine r_if_lt dX12_isLikeEarlier_65 (tgt := 117) (by decide) (fun hc => ?_) (fun hc => ?_)
      · have hr := ifp hr hc
        refine r_iload dX12_isLikeEarlier_117 5 rfl (Or.inr rfl) ?_
        obtain rfl := Option.some.inj hr
        exact r_ret dX12_isLikeEarlier_119 rfl (Or.inr ⟨rfl, rfl⟩) (k0 _ hk) ⟨rfl, rfl⟩
      · have hr := ifn hr hc
        refine r_iload dX12_isLikeEarlier_68 5 rfl (Or.inr rfl) ?_
        refine r_scast 0 (v := (2, l5)) (w := (0, l5)) rfl zc hTz (st' := [(0, l5)]) rfl ?_
        refine r_if_ne dX12_isLikeEarlier_70 (tgt := 104) (by decide) (fun hc => ?_) (fun hc => ?_)
        · have hr := ifn hr hc
          refine r_sub [0, 1, 2, 3, 4, 6] (lv' := [(0, (22, a0)), (1, (0, a1)), (2, (0, a2)), (3, (0, l3)), (4, (0, l4)), (6, (0, l6))]) rfl ?_
          exact oX12_isLikeEarlier_b104 (K := K) (fun r z => k0 r z) (fun _ _ z => k1 _ _ z) hr hk
        · have hr := ifp hr hc
          refine r_aload_n dX12_isLikeEarlier_73 rfl 0 rfl (nl rfl) ?_
          refine r_iload dX12_isLikeEarlier_74 6 rfl (Or.inl rfl) ?_
          refine r_aload_n dX12_isLikeEarlier_76 rfl 0 rfl (nl rfl) ?_
          refine r_get 12 6 (o := a0) (w := (50, h a0 6)) (T := TX12) (ref := "FollowingRefsModel") rfl (by decide) rfl (by decide) inlX12 (wsl_7 _ (List.mem_of_getElem? (i := 8) rfl)) rfl dX12_isLikeEarlier_77 rfl ?_
          refine r_bipush dX12_isLikeEarlier_80 (by decide) (by decide) ?_
          refine r_iload_n dX12_isLikeEarlier_82 rfl 2 rfl (Or.inl rfl) ?_
          refine r_iadd dX12_isLikeEarlier_83 ?_
          obtain ⟨v84, hg84, hr⟩ := bnd hr
          refine r_iald dX12_isLikeEarlier_84 hg84 ?_
          obtain ⟨r85, hg85, hr⟩ := bnd hr
          refine k_V (ci := 12) (o := a0) (T := TX12) (as := [(0, l6), (0, v84)]) (rest := []) (X := (some (2, r85), h)) (oX12_isRowOf hg85) gX12_isRowOf rfl (by decide) rfl (wsl_43 _ (List.mem_of_getElem? (i := 9) rfl)) rfl dX12_isLikeEarlier_85 rfl ?_
          refine r_scast 0 (v := (2, r85)) (w := (0, r85)) rfl zc hTz (st' := [(0, r85)]) rfl ?_
          refine r_if_eq dX12_isLikeEarlier_88 (tgt := 108) (by decide) (fun hc => ?_) (fun hc => ?_)
          · have hr := ifp hr hc
            refine r_iconst dX12_isLikeEarlier_108 (by decide) ?_
            refine r_istore dX12_isLikeEarlier_109 (Or.inl rfl) (by decide) (lv' := [(5, (0, 0)), (0, (22, a0)), (1, (0, a1)), (2, (0, a2)), (3, (0, l3)), (4, (0, l4)), (6, (0, l6))]) rfl ?_
            refine r_iinc (k := 6) (v := l6) dX12_isLikeEarlier_111 rfl (by decide) (lv' := [(6, (0, w32 (l6 + 1))), (5, (0, 0)), (0, (22, a0)), (1, (0, a1)), (2, (0, a2)), (3, (0, l3)), (4, (0, l4))]) rfl ?_
            refine r_goto dX12_isLikeEarlier_114 (tgt := 53) (by decide) ?_
            refine r_lcast 1 (v := (0, 0)) (w := (2, 0)) rfl cz (fun _ => Or.inl rfl) (lv' := [(6, (0, w32 (l6 + 1))), (5, (2, 0)), (0, (22, a0)), (1, (0, a1)), (2, (0, a2)), (3, (0, l3)), (4, (0, l4))]) rfl ?_
            refine r_sub [2, 3, 4, 5, 6, 1, 0] (lv' := [(0, (22, a0)), (1, (0, a1)), (2, (0, a2)), (3, (0, l3)), (4, (0, l4)), (5, (2, 0)), (6, (0, w32 (l6 + 1)))]) rfl ?_
            obtain rfl := Option.some.inj hr
            exact k1 _ _ hk
          · have hr := ifn hr hc
            refine r_aload_n dX12_isLikeEarlier_91 rfl 0 rfl (nl rfl) ?_
            refine r_iload dX12_isLikeEarlier_92 6 rfl (Or.inl rfl) ?_
            refine r_iload_n dX12_isLikeEarlier_94 rfl 2 rfl (Or.inl rfl) ?_
            refine r_iload_n dX12_isLikeEarlier_95 rfl 3 rfl (Or.inl rfl) ?_
            refine r_iload dX12_isLikeEarlier_96 4 rfl (Or.inl rfl) ?_
            obtain ⟨r98, hg98, hr⟩ := bnd hr
            refine k_V (ci := 12) (o := a0) (T := TX12) (as := [(0, l6), (0, a2), (0, l3), (0, l4)]) (rest := []) (X := (some (2, r98), h)) (oX12_hasKey hg98) gX12_hasKey rfl (by decide) rfl (wsl_42 _ (List.mem_of_getElem? (i := 21) rfl)) rfl dX12_isLikeEarlier_98 rfl ?_
            refine r_scast 0 (v := (2, r98)) (w := (0, r98)) rfl zc hTz (st' := [(0, r98)]) rfl ?_
            refine r_if_eq dX12_isLikeEarlier_101 (tgt := 108) (by decide) (fun hc => ?_) (fun hc => ?_)
            · have hr := ifp hr hc
              refine r_iconst dX12_isLikeEarlier_108 (by decide) ?_
              refine r_istore dX12_isLikeEarlier_109 (Or.inl rfl) (by decide) (lv' := [(5, (0, 0)), (0, (22, a0)), (1, (0, a1)), (2, (0, a2)), (3, (0, l3)), (4, (0, l4)), (6, (0, l6))]) rfl ?_
              refine r_iinc (k := 6) (v := l6) dX12_isLikeEarlier_111 rfl (by decide) (lv' := [(6, (0, w32 (l6 + 1))), (5, (0, 0)), (0, (22, a0)), (1, (0, a1)), (2, (0, a2)), (3, (0, l3)), (4, (0, l4))]) rfl ?_
              refine r_goto dX12_isLikeEarlier_114 (tgt := 53) (by decide) ?_
              refine r_lcast 1 (v := (0, 0)) (w := (2, 0)) rfl cz (fun _ => Or.inl rfl) (lv' := [(6, (0, w32 (l6 + 1))), (5, (2, 0)), (0, (22, a0)), (1, (0, a1)), (2, (0, a2)), (3, (0, l3)), (4, (0, l4))]) rfl ?_
              refine r_sub [2, 3, 4, 5, 6, 1, 0] (lv' := [(0, (22, a0)), (1, (0, a1)), (2, (0, a2)), (3, (0, l3)), (4, (0, l4)), (5, (2, 0)), (6, (0, w32 (l6 + 1)))]) rfl ?_
              obtain rfl := Option.some.inj hr
              exact k1 _ _ hk
            · have hr := ifn hr hc
              refine r_sub [0, 1, 2, 3, 4, 6] (lv' := [(0, (22, a0)), (1, (0, a1)), (2, (0, a2)), (3, (0, l3)), (4, (0, l4)), (6, (0, l6))]) rfl ?_
              exact oX12_isLikeEarlier_b104 (K := K) (fun r z => k0 r z) (fun _ _ z => k1 _ _ z) hr hk
set_option maxRecDepth 100000 in
set_option maxHeartbeats 4000000 in
theorem oX12_isLikeEarlier_b45 {a0 a1 a2 l3 s0 : Int} {K : Int → Prop} (k0 : ∀ r, K (r) → x = (some (2, r), h)) {r : Int} (hr : fX12_isLikeEarlier_b45 h a0 a1 a2 l3 s0 = some r) (hk : K r) : Wq p l e R s m args below meth c D G A H0 true n0 M_X12_isLikeEarlier x 0 0 45 [(0, (22, a0)), (1, (0, a1)), (2, (0, a2)), (3, (0, l3))] [(0, s0)] h := by
  unfold fX12_isLikeEarlier_b45 at hr
  refine r_istore dX12_isLikeEarlier_45 (Or.inl rfl) (by decide) (lv' := [(4, (0, s0)), (0, (22, a0)), (1, (0, a1)), (2, (0, a2)), (3, (0, l3))]) rfl ?_
  refine r_iconst dX12_isLikeEarlier_47 (by decide) ?_
  refine r_istore dX12_isLikeEarlier_48 (Or.inl rfl) (by decide) (lv' := [(5, (0, 0)), (4, (0, s0)), (0, (22, a0)), (1, (0, a1)), (2, (0, a2)), (3, (0, l3))]) rfl ?_
  refine r_iconst dX12_isLikeEarlier_50 (by decide) ?_
  refine r_istore dX12_isLikeEarlier_51 (Or.inl rfl) (by decide) (lv' := [(6, (0, 0)), (5, (0, 0)), (4, (0, s0)), (0, (22, a0)), (1, (0, a1)), (2, (0, a2)), (3, (0, l3))]) rfl ?_
  refine r_lcast 1 (v := (0, 0)) (w := (2, 0)) rfl cz (fun _ => Or.inl rfl) (lv' := [(6, (0, 0)), (5, (2, 0)), (4, (0, s0)), (0, (22, a0)), (1, (0, a1)), (2, (0, a2)), (3, (0, l3))]) rfl ?_
  refine r_sub [3, 4, 5, 6, 2, 1, 0] (lv' := [(0, (22, a0)), (1, (0, a1)), (2, (0, a2)), (3, (0, l3)), (4, (0, s0)), (5, (2, 0)), (6, (0, 0))]) rfl ?_
  exact lp_ok (w := fun (q : Int × Int) => Wq p l e R s m args below meth c D G A H0 true n0 M_X12_isLikeEarlier x 0 0 53 [(0, (22, a0)), (1, (0, a1)), (2, (0, a2)), (3, (0, l3)), (4, (0, s0)), (5, (2, q.1)), (6, (0, q.2))] [] (h)) (K := K) (fun ⟨q0, q1⟩ r h1 h2 => oX12_isLikeEarlier_s53 (K := Sum.elim (fun (q : Int × Int) => Wq p l e R s m args below meth c D G A H0 true n0 M_X12_isLikeEarlier x 0 0 53 [(0, (22, a0)), (1, (0, a1)), (2, (0, a2)), (3, (0, l3)), (4, (0, s0)), (5, (2, q.1)), (6, (0, q.2))] [] (h)) (K)) (fun r z => k0 r z) (fun _ _ z => z) h1 h2) hr hk
set_option maxRecDepth 100000 in
set_option maxHeartbeats 4000000 in
theorem oX12_isLikeEarlier_b0 {a0 a1 a2 : Int} {K : Int → Prop} (k0 : ∀ r, K (r) → x = (some (2, r), h)) {r : Int} (hr : fX12_isLikeEarlier h a0 a1 a2 = some r) (hk : K r) : Wq p l e R s m args below meth c D G A H0 true n0 M_X12_isLikeEarlier x 0 0 0 [(0, (22, a0)), (1, (0, a1)), (2, (0, a2))] [] h := by
  unfold fX12_isLikeEarlier at hr
  refine r_aload_n dX12_isLikeEarlier_0 rfl 0 rfl (nl rfl) ?_
  refine r_iload_n dX12_isLikeEarlier_1 rfl 1 rfl (Or.inl rfl) ?_
  refine r_aload_n dX12_isLikeEarlier_2 rfl 0 rfl (nl rfl) ?_
  refine r_get 12 6 (o := a0) (w := (50, h a0 6)) (T := TX12) (ref := "FollowingRefsModel") rfl (by decide) rfl (by decide) inlX12 (wsl_7 _ (List.mem_of_getElem? (i := 8) rfl)) rfl dX12_isLikeEarlier_3 rfl ?_
  refine r_bipush dX12_isLikeEarlier_6 (by decide) (by decide) ?_
  refine r_iload_n dX12_isLikeEarlier_8 rfl 2 rfl (Or.inl rfl) ?_
  refine r_iadd dX12_isLikeEarlier_9 ?_
  obtain ⟨v10, hg10, hr⟩ := bnd hr
  refine r_iald dX12_isLikeEarlier_10 hg10 ?_
  obtain ⟨r11, hg11, hr⟩ := bnd hr
  refine k_V (ci := 12) (o := a0) (T := TX12) (as := [(0, a1), (0, v10)]) (rest := []) (X := (some (0, r11), h)) (oX12_cellOf hg11) gX12_cellOf rfl (by decide) rfl (wsl_42 _ (List.mem_of_getElem? (i := 17) rfl)) rfl dX12_isLikeEarlier_11 rfl ?_
  refine r_istore_n dX12_isLikeEarlier_14 rfl (Or.inl rfl) (by decide) (lv' := [(3, (0, r11)), (0, (22, a0)), (1, (0, a1)), (2, (0, a2))]) rfl ?_
  refine r_aload_n dX12_isLikeEarlier_15 rfl 1 rfl (nl rfl) ?_
  refine r_get 12 6 (o := a0) (w := (50, h a0 6)) (T := TX12) (ref := "FollowingRefsModel") rfl (by decide) rfl (by decide) inlX12 (wsl_7 _ (List.mem_of_getElem? (i := 8) rfl)) rfl dX12_isLikeEarlier_16 rfl ?_
  refine r_bipush dX12_isLikeEarlier_19 (by decide) (by decide) ?_
  refine r_iload_n dX12_isLikeEarlier_21 rfl 3 rfl (Or.inl rfl) ?_
  refine r_iadd dX12_isLikeEarlier_22 ?_
  obtain ⟨v23, hg23, hr⟩ := bnd hr
  refine r_iald dX12_isLikeEarlier_23 hg23 ?_
  refine r_if_ge dX12_isLikeEarlier_24 (tgt := 31) (by decide) (fun hc => ?_) (fun hc => ?_)
  · have hr := ifn hr hc
    refine r_aload_n dX12_isLikeEarlier_31 rfl 1 rfl (nl rfl) ?_
    refine r_iload_n dX12_isLikeEarlier_32 rfl 2 rfl (Or.inl rfl) ?_
    refine r_aload_n dX12_isLikeEarlier_33 rfl 1 rfl (nl rfl) ?_
    refine r_get 12 6 (o := a0) (w := (50, h a0 6)) (T := TX12) (ref := "FollowingRefsModel") rfl (by decide) rfl (by decide) inlX12 (wsl_7 _ (List.mem_of_getElem? (i := 8) rfl)) rfl dX12_isLikeEarlier_34 rfl ?_
    refine r_bipush dX12_isLikeEarlier_37 (by decide) (by decide) ?_
    refine r_iload_n dX12_isLikeEarlier_39 rfl 3 rfl (Or.inl rfl) ?_
    refine r_iadd dX12_isLikeEarlier_40 ?_
    obtain ⟨v41, hg41, hr⟩ := bnd hr
    refine r_iald dX12_isLikeEarlier_41 hg41 ?_
    obtain ⟨r42, hg42, hr⟩ := bnd hr
    refine k_V (ci := 12) (o := a0) (T := TX12) (as := [(0, a1), (0, v41)]) (rest := []) (X := (some (0, r42), h)) (oX12_cellOf hg42) gX12_cellOf rfl (by decide) rfl (wsl_42 _ (List.mem_of_getElem? (i := 17) rfl)) rfl dX12_isLikeEarlier_42 rfl ?_
    refine r_sub [1, 2, 3, 0] (lv' := [(0, (22, a0)), (1, (0, a1)), (2, (0, a2)), (3, (0, r11))]) rfl ?_
    exact oX12_isLikeEarlier_b45 (K := K) (fun r z => k0 r z) hr hk
  · have hr := ifp hr hc
    refine r_iconst dX12_isLikeEarlier_27 (by decide) ?_
    refine r_goto dX12_isLikeEarlier_28 (tgt := 45) (by decide) ?_
    refine r_sub [1, 2, 3, 0] (lv' := [(0, (22, a0)), (1, (0, a1)), (2, (0, a2)), (3, (0, r11))]) rfl ?_
    exact oX12_isLikeEarlier_b45 (K := K) (fun r z => k0 r z) hr hk
end M_X12_isLikeEarlier
theorem oX12_isLikeEarlier {l : Launch} {D : va_G} {G : gG} {h : hH} {a0 a1 a2 : Int} {r : Int} (hr : fX12_isLikeEarlier h a0 a1 a2 = some r) : Ctr l D G true yX12_isLikeEarlier M_X12_isLikeEarlier [(22, a0), (0, a1), (0, a2)] h (some (2, r), h) :=
  Ctr_of (by decide) rfl (fun z => by cases z) (nl rfl) (fun {p e R s m args below meth c A H0} => by
    exact oX12_isLikeEarlier_b0 (K := fun z9 => z9 = r) (fun r9 z => by rw [z]) hr rfl)
/-! X12_isBadRef -/
theorem dX12_isBadRef_0 : decode cX12_isBadRef 0 = .ok (.aload_n 0, 1) := by decide +kernel
theorem dX12_isBadRef_1 : decode cX12_isBadRef 1 = .ok (.iload_n 1, 1) := by decide +kernel
theorem dX12_isBadRef_2 : decode cX12_isBadRef 2 = .ok (.aload_n 0, 1) := by decide +kernel
theorem dX12_isBadRef_3 : decode cX12_isBadRef 3 = .ok (.getfield 33, 3) := by decide +kernel
theorem dX12_isBadRef_6 : decode cX12_isBadRef 6 = .ok (.bipush 64, 2) := by decide +kernel
theorem dX12_isBadRef_8 : decode cX12_isBadRef 8 = .ok (.iload_n 2, 1) := by decide +kernel
theorem dX12_isBadRef_9 : decode cX12_isBadRef 9 = .ok (.iadd, 1) := by decide +kernel
theorem dX12_isBadRef_10 : decode cX12_isBadRef 10 = .ok (.iaload, 1) := by decide +kernel
theorem dX12_isBadRef_11 : decode cX12_isBadRef 11 = .ok (.invokevirtual 320, 3) := by decide +kernel
theorem dX12_isBadRef_14 : decode cX12_isBadRef 14 = .ok (.ifCond .lt 7, 3) := by decide +kernel
theorem dX12_isBadRef_17 : decode cX12_isBadRef 17 = .ok (.iconst 1, 1) := by decide +kernel
theorem dX12_isBadRef_18 : decode cX12_isBadRef 18 = .ok (.goto 4, 3) := by decide +kernel
theorem dX12_isBadRef_21 : decode cX12_isBadRef 21 = .ok (.iconst 0, 1) := by decide +kernel
theorem dX12_isBadRef_22 : decode cX12_isBadRef 22 = .ok (.istore_n 3, 1) := by decide +kernel
theorem dX12_isBadRef_23 : decode cX12_isBadRef 23 = .ok (.aload_n 0, 1) := by decide +kernel
theorem dX12_isBadRef_24 : decode cX12_isBadRef 24 = .ok (.getfield 33, 3) := by decide +kernel
theorem dX12_isBadRef_27 : decode cX12_isBadRef 27 = .ok (.bipush 70, 2) := by decide +kernel
theorem dX12_isBadRef_29 : decode cX12_isBadRef 29 = .ok (.iload_n 2, 1) := by decide +kernel
theorem dX12_isBadRef_30 : decode cX12_isBadRef 30 = .ok (.iadd, 1) := by decide +kernel
theorem dX12_isBadRef_31 : decode cX12_isBadRef 31 = .ok (.iaload, 1) := by decide +kernel
theorem dX12_isBadRef_32 : decode cX12_isBadRef 32 = .ok (.ifCond .ge 7, 3) := by decide +kernel
theorem dX12_isBadRef_35 : decode cX12_isBadRef 35 = .ok (.iload_n 3, 1) := by decide +kernel
theorem dX12_isBadRef_36 : decode cX12_isBadRef 36 = .ok (.goto 25, 3) := by decide +kernel
theorem dX12_isBadRef_39 : decode cX12_isBadRef 39 = .ok (.aload_n 0, 1) := by decide +kernel
theorem dX12_isBadRef_40 : decode cX12_isBadRef 40 = .ok (.iload_n 1, 1) := by decide +kernel
theorem dX12_isBadRef_41 : decode cX12_isBadRef 41 = .ok (.aload_n 0, 1) := by decide +kernel
theorem dX12_isBadRef_42 : decode cX12_isBadRef 42 = .ok (.getfield 33, 3) := by decide +kernel
theorem dX12_isBadRef_45 : decode cX12_isBadRef 45 = .ok (.bipush 70, 2) := by decide +kernel
theorem dX12_isBadRef_47 : decode cX12_isBadRef 47 = .ok (.iload_n 2, 1) := by decide +kernel
theorem dX12_isBadRef_48 : decode cX12_isBadRef 48 = .ok (.iadd, 1) := by decide +kernel
theorem dX12_isBadRef_49 : decode cX12_isBadRef 49 = .ok (.iaload, 1) := by decide +kernel
theorem dX12_isBadRef_50 : decode cX12_isBadRef 50 = .ok (.invokevirtual 320, 3) := by decide +kernel
theorem dX12_isBadRef_53 : decode cX12_isBadRef 53 = .ok (.ifCond .lt 7, 3) := by decide +kernel
theorem dX12_isBadRef_56 : decode cX12_isBadRef 56 = .ok (.iconst 1, 1) := by decide +kernel
theorem dX12_isBadRef_57 : decode cX12_isBadRef 57 = .ok (.goto 4, 3) := by decide +kernel
theorem dX12_isBadRef_60 : decode cX12_isBadRef 60 = .ok (.iconst 0, 1) := by decide +kernel
theorem dX12_isBadRef_61 : decode cX12_isBadRef 61 = .ok (.istore 4, 2) := by decide +kernel
theorem dX12_isBadRef_63 : decode cX12_isBadRef 63 = .ok (.iload_n 3, 1) := by decide +kernel
theorem dX12_isBadRef_64 : decode cX12_isBadRef 64 = .ok (.ifCond .eq 25, 3) := by decide +kernel
theorem dX12_isBadRef_67 : decode cX12_isBadRef 67 = .ok (.iload 4, 2) := by decide +kernel
theorem dX12_isBadRef_69 : decode cX12_isBadRef 69 = .ok (.ifCond .eq 20, 3) := by decide +kernel
theorem dX12_isBadRef_72 : decode cX12_isBadRef 72 = .ok (.aload_n 0, 1) := by decide +kernel
theorem dX12_isBadRef_73 : decode cX12_isBadRef 73 = .ok (.iload_n 1, 1) := by decide +kernel
theorem dX12_isBadRef_74 : decode cX12_isBadRef 74 = .ok (.iload_n 2, 1) := by decide +kernel
theorem dX12_isBadRef_75 : decode cX12_isBadRef 75 = .ok (.invokevirtual 333, 3) := by decide +kernel
theorem dX12_isBadRef_78 : decode cX12_isBadRef 78 = .ok (.ifCond .ge 7, 3) := by decide +kernel
theorem dX12_isBadRef_81 : decode cX12_isBadRef 81 = .ok (.iconst 1, 1) := by decide +kernel
theorem dX12_isBadRef_82 : decode cX12_isBadRef 82 = .ok (.goto 31, 3) := by decide +kernel
theorem dX12_isBadRef_85 : decode cX12_isBadRef 85 = .ok (.iconst 0, 1) := by decide +kernel
theorem dX12_isBadRef_86 : decode cX12_isBadRef 86 = .ok (.goto 27, 3) := by decide +kernel
theorem dX12_isBadRef_89 : decode cX12_isBadRef 89 = .ok (.aload_n 0, 1) := by decide +kernel
theorem dX12_isBadRef_90 : decode cX12_isBadRef 90 = .ok (.getfield 33, 3) := by decide +kernel
theorem dX12_isBadRef_93 : decode cX12_isBadRef 93 = .ok (.bipush 100, 2) := by decide +kernel
theorem dX12_isBadRef_95 : decode cX12_isBadRef 95 = .ok (.iload_n 2, 1) := by decide +kernel
theorem dX12_isBadRef_96 : decode cX12_isBadRef 96 = .ok (.iadd, 1) := by decide +kernel
theorem dX12_isBadRef_97 : decode cX12_isBadRef 97 = .ok (.iaload, 1) := by decide +kernel
theorem dX12_isBadRef_98 : decode cX12_isBadRef 98 = .ok (.iconst 1, 1) := by decide +kernel
theorem dX12_isBadRef_99 : decode cX12_isBadRef 99 = .ok (.if_icmp .ne 13, 3) := by decide +kernel
theorem dX12_isBadRef_102 : decode cX12_isBadRef 102 = .ok (.iload_n 3, 1) := by decide +kernel
theorem dX12_isBadRef_103 : decode cX12_isBadRef 103 = .ok (.iload 4, 2) := by decide +kernel
theorem dX12_isBadRef_105 : decode cX12_isBadRef 105 = .ok (.if_icmp .eq 7, 3) := by decide +kernel
theorem dX12_isBadRef_108 : decode cX12_isBadRef 108 = .ok (.iconst 1, 1) := by decide +kernel
theorem dX12_isBadRef_109 : decode cX12_isBadRef 109 = .ok (.goto 4, 3) := by decide +kernel
theorem dX12_isBadRef_112 : decode cX12_isBadRef 112 = .ok (.iconst 0, 1) := by decide +kernel
theorem dX12_isBadRef_113 : decode cX12_isBadRef 113 = .ok (.ireturn, 1) := by decide +kernel
abbrev M_X12_isBadRef : mM := (cX12_isBadRef, 5, RX12, some .boolean, false, 3, 71, 0, 0)
theorem gX12_isBadRef : cI yX12_isBadRef M_X12_isBadRef 2 := ⟨(wsl_46 _ (List.mem_of_getElem? (i := 1) rfl)), (wsl_46 _ (List.mem_of_getElem? (i := 2) rfl)), (wsl_1 _ (List.mem_of_getElem? (i := 5) rfl)), (wsl_46 _ (List.mem_of_getElem? (i := 3) rfl)), by decide +kernel⟩
noncomputable def fX12_isBadRef_b89 (h : hH) (a0 a2 l3 l4 : Int) : Option (Int) :=
  (aget h (h a0 6) (w32 (100 + a2))).bind fun v97 =>
  if v97 = 1 then
    if l3 = l4 then
      some 0
    else
      some 1
  else
    some 0
noncomputable def fX12_isBadRef_b61 (h : hH) (a0 a1 a2 l3 s0 : Int) : Option (Int) :=
  if l3 = 0 then
    fX12_isBadRef_b89 h a0 a2 l3 s0
  else
    if s0 = 0 then
      fX12_isBadRef_b89 h a0 a2 l3 s0
    else
      (fX12_target h a0 a1 a2).bind fun r75 =>
      if r75 < 0 then
        some 1
      else
        some 0
noncomputable def fX12_isBadRef_b22 (h : hH) (a0 a1 a2 s0 : Int) : Option (Int) :=
  (aget h (h a0 6) (w32 (70 + a2))).bind fun v31 =>
  if v31 < 0 then
    fX12_isBadRef_b61 h a0 a1 a2 s0 s0
  else
    (aget h (h a0 6) (w32 (70 + a2))).bind fun v49 =>
    (fX12_cellOf h a0 a1 v49).bind fun r50 =>
    if r50 < 0 then
      fX12_isBadRef_b61 h a0 a1 a2 s0 0
    else
      fX12_isBadRef_b61 h a0 a1 a2 s0 1
noncomputable def fX12_isBadRef (h : hH) (a0 a1 a2 : Int) : Option (Int) :=
  (aget h (h a0 6) (w32 (64 + a2))).bind fun v10 =>
  (fX12_cellOf h a0 a1 v10).bind fun r11 =>
  if r11 < 0 then
    fX12_isBadRef_b22 h a0 a1 a2 0
  else
    fX12_isBadRef_b22 h a0 a1 a2 1
section M_X12_isBadRef
variable {p : Program} {l : Launch} {e : Env} {R : Room} {s : State} {m : MethodId} {args : Array Value} {below : List Frame} {meth : Method} {c : Code} {D : va_G} {G : gG} {A : Nat → Prop} {H0 : Heap} {n0 : Int} {x : Option vV × hH} {h : hH}
set_option maxRecDepth 100000 in
set_option maxHeartbeats 4000000 in
theorem oX12_isBadRef_b89 {a0 a2 l3 l4 : Int} {K : Int → Prop} (k0 : ∀ r, K (r) → x = (some (2, r), h)) {r : Int} (hr : fX12_isBadRef_b89 h a0 a2 l3 l4 = some r) (hk : K r) : Wq p l e R s m args below meth c D G A H0 true n0 M_X12_isBadRef x 0 0 89 [(0, (22, a0)), (2, (0, a2)), (3, (2, l3)), (4, (2, l4))] [] h := by
  unfold fX12_isBadRef_b89 at hr
  refine r_aload_n dX12_isBadRef_89 rfl 0 rfl (nl rfl) ?_
  refine r_get 12 6 (o := a0) (w := (50, h a0 6)) (T := TX12) (ref := "FollowingRefsModel") rfl (by decide) rfl (by decide) inlX12 (wsl_7 _ (List.mem_of_getElem? (i := 8) rfl)) rfl dX12_isBadRef_90 rfl ?_
  refine r_bipush dX12_isBadRef_93 (by decide) (by decide) ?_
  refine r_iload_n dX12_isBadRef_95 rfl 1 rfl (Or.inl rfl) ?_
  refine r_iadd dX12_isBadRef_96 ?_
  obtain ⟨v97, hg97, hr⟩ := bnd hr
  refine r_iald dX12_isBadRef_97 hg97 ?_
  refine r_iconst dX12_isBadRef_98 (by decide) ?_
  refine r_icmp_ne dX12_isBadRef_99 (tgt := 112) (by decide) (fun hc => ?_) (fun hc => ?_)
  · have hr := ifn hr hc
    refine r_iconst dX12_isBadRef_112 (by decide) ?_
    refine r_scast 0 (v := (0, 0)) (w := (2, 0)) rfl cz (fun _ => Or.inl rfl) (st' := [(2, 0)]) rfl ?_
    obtain rfl := Option.some.inj hr
    exact r_ret dX12_isBadRef_113 rfl (Or.inr ⟨rfl, rfl⟩) (k0 _ hk) ⟨rfl, rfl⟩
  · have hr := ifp hr hc
    refine r_iload_n dX12_isBadRef_102 rfl 2 rfl (Or.inr rfl) ?_
    refine r_iload dX12_isBadRef_103 3 rfl (Or.inr rfl) ?_
    refine r_scast 0 (v := (2, l4)) (w := (0, l4)) rfl zc hTz (st' := [(0, l4), (2, l3)]) rfl ?_
    refine r_scast 1 (v := (2, l3)) (w := (0, l3)) rfl zc hTz (st' := [(0, l4), (0, l3)]) rfl ?_
    refine r_icmp_eq dX12_isBadRef_105 (tgt := 112) (by decide) (fun hc => ?_) (fun hc => ?_)
    · have hr := ifp hr hc
      refine r_iconst dX12_isBadRef_112 (by decide) ?_
      refine r_scast 0 (v := (0, 0)) (w := (2, 0)) rfl cz (fun _ => Or.inl rfl) (st' := [(2, 0)]) rfl ?_
      obtain rfl := Option.some.inj hr
      exact r_ret dX12_isBadRef_113 rfl (Or.inr ⟨rfl, rfl⟩) (k0 _ hk) ⟨rfl, rfl⟩
    · have hr := ifn hr hc
      refine r_iconst dX12_isBadRef_108 (by decide) ?_
      refine r_goto dX12_isBadRef_109 (tgt := 113) (by decide) ?_
      refine r_scast 0 (v := (0, 1)) (w := (2, 1)) rfl cz (fun _ => Or.inr rfl) (st' := [(2, 1)]) rfl ?_
      obtain rfl := Option.some.inj hr
      exact r_ret dX12_isBadRef_113 rfl (Or.inr ⟨rfl, rfl⟩) (k0 _ hk) ⟨rfl, rfl⟩
set_option maxRecDepth 100000 in
set_option maxHeartbeats 4000000 in
theorem oX12_isBadRef_b61 {a0 a1 a2 l3 s0 : Int} {K : Int → Prop} (k0 : ∀ r, K (r) → x = (some (2, r), h)) {r : Int} (hr : fX12_isBadRef_b61 h a0 a1 a2 l3 s0 = some r) (hk : K r) : Wq p l e R s m args below meth c D G A H0 true n0 M_X12_isBadRef x 0 0 61 [(0, (22, a0)), (1, (0, a1)), (2, (0, a2)), (3, (2, l3))] [(2, s0)] h := by
  unfold fX12_isBadRef_b61 at hr
  refine r_istore dX12_isBadRef_61 (Or.inr rfl) (by decide) (lv' := [(4, (2, s0)), (0, (22, a0)), (1, (0, a1)), (2, (0, a2)), (3, (2, l3))]) rfl ?_
  refine r_iload_n dX12_isBadRef_63 rfl 4 rfl (Or.inr rfl) ?_
  refine r_scast 0 (v := (2, l3)) (w := (0, l3)) rfl zc hTz (st' := [(0, l3)]) rfl ?_
  refine r_if_eq dX12_isBadRef_64 (tgt := 89) (by decide) (fun hc => ?_) (fun hc => ?_)
  · have hr := ifp hr hc
    refine r_sub [1, 3, 4, 0] (lv' := [(0, (22, a0)), (2, (0, a2)), (3, (2, l3)), (4, (2, s0))]) rfl ?_
    exact oX12_isBadRef_b89 (K := K) (fun r z => k0 r z) hr hk
  · have hr := ifn hr hc
    refine r_iload dX12_isBadRef_67 0 rfl (Or.inr rfl) ?_
    refine r_scast 0 (v := (2, s0)) (w := (0, s0)) rfl zc hTz (st' := [(0, s0)]) rfl ?_
    refine r_if_eq dX12_isBadRef_69 (tgt := 89) (by decide) (fun hc => ?_) (fun hc => ?_)
    · have hr := ifp hr hc
      refine r_sub [1, 3, 4, 0] (lv' := [(0, (22, a0)), (2, (0, a2)), (3, (2, l3)), (4, (2, s0))]) rfl ?_
      exact oX12_isBadRef_b89 (K := K) (fun r z => k0 r z) hr hk
    · have hr := ifn hr hc
      refine r_aload_n dX12_isBadRef_72 rfl 1 rfl (nl rfl) ?_
      refine r_iload_n dX12_isBadRef_73 rfl 2 rfl (Or.inl rfl) ?_
      refine r_iload_n dX12_isBadRef_74 rfl 3 rfl (Or.inl rfl) ?_
      obtain ⟨r75, hg75, hr⟩ := bnd hr
      refine k_V (ci := 12) (o := a0) (T := TX12) (as := [(0, a1), (0, a2)]) (rest := []) (X := (some (0, r75), h)) (oX12_target hg75) gX12_target rfl (by decide) rfl (wsl_42 _ (List.mem_of_getElem? (i := 13) rfl)) rfl dX12_isBadRef_75 rfl ?_
      refine r_if_ge dX12_isBadRef_78 (tgt := 85) (by decide) (fun hc => ?_) (fun hc => ?_)
      · have hr := ifn hr hc
        refine r_iconst dX12_isBadRef_85 (by decide) ?_
        refine r_goto dX12_isBadRef_86 (tgt := 113) (by decide) ?_
        refine r_scast 0 (v := (0, 0)) (w := (2, 0)) rfl cz (fun _ => Or.inl rfl) (st' := [(2, 0)]) rfl ?_
        obtain rfl := Option.some.inj hr
        exact r_ret dX12_isBadRef_113 rfl (Or.inr ⟨rfl, rfl⟩) (k0 _ hk) ⟨rfl, rfl⟩
      · have hr := ifp hr hc
        refine r_iconst dX12_isBadRef_81 (by decide) ?_
        refine r_goto dX12_isBadRef_82 (tgt := 113) (by decide) ?_
        refine r_scast 0 (v := (0, 1)) (w := (2, 1)) rfl cz (fun _ => Or.inr rfl) (st' := [(2, 1)]) rfl ?_
        obtain rfl := Option.some.inj hr
        exact r_ret dX12_isBadRef_113 rfl (Or.inr ⟨rfl, rfl⟩) (k0 _ hk) ⟨rfl, rfl⟩
set_option maxRecDepth 100000 in
set_option maxHeartbeats 4000000 in
theorem oX12_isBadRef_b22 {a0 a1 a2 s0 : Int} {K : Int → Prop} (k0 : ∀ r, K (r) → x = (some (2, r), h)) {r : Int} (hr : fX12_isBadRef_b22 h a0 a1 a2 s0 = some r) (hk : K r) : Wq p l e R s m args below meth c D G A H0 true n0 M_X12_isBadRef x 0 0 22 [(0, (22, a0)), (1, (0, a1)), (2, (0, a2))] [(2, s0)] h := by
  unfold fX12_isBadRef_b22 at hr
  refine r_istore_n dX12_isBadRef_22 rfl (Or.inr rfl) (by decide) (lv' := [(3, (2, s0)), (0, (22, a0)), (1, (0, a1)), (2, (0, a2))]) rfl ?_
  refine r_aload_n dX12_isBadRef_23 rfl 1 rfl (nl rfl) ?_
  refine r_get 12 6 (o := a0) (w := (50, h a0 6)) (T := TX12) (ref := "FollowingRefsModel") rfl (by decide) rfl (by decide) inlX12 (wsl_7 _ (List.mem_of_getElem? (i := 8) rfl)) rfl dX12_isBadRef_24 rfl ?_
  refine r_bipush dX12_isBadRef_27 (by decide) (by decide) ?_
  refine r_iload_n dX12_isBadRef_29 rfl 3 rfl (Or.inl rfl) ?_
  refine r_iadd dX12_isBadRef_30 ?_
  obtain ⟨v31, hg31, hr⟩ := bnd hr
  refine r_iald dX12_isBadRef_31 hg31 ?_
  refine r_if_ge dX12_isBadRef_32 (tgt := 39) (by decide) (fun hc => ?_) (fun hc => ?_)
  · have hr := ifn hr hc
    refine r_aload_n dX12_isBadRef_39 rfl 1 rfl (nl rfl) ?_
    refine r_iload_n dX12_isBadRef_40 rfl 2 rfl (Or.inl rfl) ?_
    refine r_aload_n dX12_isBadRef_41 rfl 1 rfl (nl rfl) ?_
    refine r_get 12 6 (o := a0) (w := (50, h a0 6)) (T := TX12) (ref := "FollowingRefsModel") rfl (by decide) rfl (by decide) inlX12 (wsl_7 _ (List.mem_of_getElem? (i := 8) rfl)) rfl dX12_isBadRef_42 rfl ?_
    refine r_bipush dX12_isBadRef_45 (by decide) (by decide) ?_
    refine r_iload_n dX12_isBadRef_47 rfl 3 rfl (Or.inl rfl) ?_
    refine r_iadd dX12_isBadRef_48 ?_
    obtain ⟨v49, hg49, hr⟩ := bnd hr
    refine r_iald dX12_isBadRef_49 hg49 ?_
    obtain ⟨r50, hg50, hr⟩ := bnd hr
    refine k_V (ci := 12) (o := a0) (T := TX12) (as := [(0, a1), (0, v49)]) (rest := []) (X := (some (0, r50), h)) (oX12_cellOf hg50) gX12_cellOf rfl (by decide) rfl (wsl_42 _ (List.mem_of_getElem? (i := 17) rfl)) rfl dX12_isBadRef_50 rfl ?_
    refine r_if_lt dX12_isBadRef_53 (tgt := 60) (by decide) (fun hc => ?_) (fun hc => ?_)
    · have hr := ifp hr hc
      refine r_iconst dX12_isBadRef_60 (by decide) ?_
      refine r_sub [1, 2, 3, 0] (lv' := [(0, (22, a0)), (1, (0, a1)), (2, (0, a2)), (3, (2, s0))]) rfl ?_
      refine r_scast 0 (v := (0, 0)) (w := (2, 0)) rfl cz (fun _ => Or.inl rfl) (st' := [(2, 0)]) rfl ?_
      exact oX12_isBadRef_b61 (K := K) (fun r z => k0 r z) hr hk
    · have hr := ifn hr hc
      refine r_iconst dX12_isBadRef_56 (by decide) ?_
      refine r_goto dX12_isBadRef_57 (tgt := 61) (by decide) ?_
      refine r_sub [1, 2, 3, 0] (lv' := [(0, (22, a0)), (1, (0, a1)), (2, (0, a2)), (3, (2, s0))]) rfl ?_
      refine r_scast 0 (v := (0, 1)) (w := (2, 1)) rfl cz (fun _ => Or.inr rfl) (st' := [(2, 1)]) rfl ?_
      exact oX12_isBadRef_b61 (K := K) (fun r z => k0 r z) hr hk
  · have hr := ifp hr hc
    refine r_iload_n dX12_isBadRef_35 rfl 0 rfl (Or.inr rfl) ?_
    refine r_goto dX12_isBadRef_36 (tgt := 61) (by decide) ?_
    refine r_sub [1, 2, 3, 0] (lv' := [(0, (22, a0)), (1, (0, a1)), (2, (0, a2)), (3, (2, s0))]) rfl ?_
    exact oX12_isBadRef_b61 (K := K) (fun r z => k0 r z) hr hk
set_option maxRecDepth 100000 in
set_option maxHeartbeats 4000000 in
theorem oX12_isBadRef_b0 {a0 a1 a2 : Int} {K : Int → Prop} (k0 : ∀ r, K (r) → x = (some (2, r), h)) {r : Int} (hr : fX12_isBadRef h a0 a1 a2 = some r) (hk : K r) : Wq p l e R s m args below meth c D G A H0 true n0 M_X12_isBadRef x 0 0 0 [(0, (22, a0)), (1, (0, a1)), (2, (0, a2))] [] h := by
  unfold fX12_isBadRef at hr
  refine r_aload_n dX12_isBadRef_0 rfl 0 rfl (nl rfl) ?_
  refine r_iload_n dX12_isBadRef_1 rfl 1 rfl (Or.inl rfl) ?_
  refine r_aload_n dX12_isBadRef_2 rfl 0 rfl (nl rfl) ?_
  refine r_get 12 6 (o := a0) (w := (50, h a0 6)) (T := TX12) (ref := "FollowingRefsModel") rfl (by decide) rfl (by decide) inlX12 (wsl_7 _ (List.mem_of_getElem? (i := 8) rfl)) rfl dX12_isBadRef_3 rfl ?_
  refine r_bipush dX12_isBadRef_6 (by decide) (by decide) ?_
  refine r_iload_n dX12_isBadRef_8 rfl 2 rfl (Or.inl rfl) ?_
  refine r_iadd dX12_isBadRef_9 ?_
  obtain ⟨v10, hg10, hr⟩ := bnd hr
  refine r_iald dX12_isBadRef_10 hg10 ?_
  obtain ⟨r11, hg11, hr⟩ := bnd hr
  refine k_V (ci := 12) (o := a0) (T := TX12) (as := [(0, a1), (0, v10)]) (rest := []) (X := (some (0, r11), h)) (oX12_cellOf hg11) gX12_cellOf rfl (by decide) rfl (wsl_42 _ (List.mem_of_getElem? (i := 17) rfl)) rfl dX12_isBadRef_11 rfl ?_
  refine r_if_lt dX12_isBadRef_14 (tgt := 21) (by decide) (fun hc => ?_) (fun hc => ?_)
  · have hr := ifp hr hc
    refine r_iconst dX12_isBadRef_21 (by decide) ?_
    refine r_scast 0 (v := (0, 0)) (w := (2, 0)) rfl cz (fun _ => Or.inl rfl) (st' := [(2, 0)]) rfl ?_
    exact oX12_isBadRef_b22 (K := K) (fun r z => k0 r z) hr hk
  · have hr := ifn hr hc
    refine r_iconst dX12_isBadRef_17 (by decide) ?_
    refine r_goto dX12_isBadRef_18 (tgt := 22) (by decide) ?_
    refine r_scast 0 (v := (0, 1)) (w := (2, 1)) rfl cz (fun _ => Or.inr rfl) (st' := [(2, 1)]) rfl ?_
    exact oX12_isBadRef_b22 (K := K) (fun r z => k0 r z) hr hk
end M_X12_isBadRef
theorem oX12_isBadRef {l : Launch} {D : va_G} {G : gG} {h : hH} {a0 a1 a2 : Int} {r : Int} (hr : fX12_isBadRef h a0 a1 a2 = some r) : Ctr l D G true yX12_isBadRef M_X12_isBadRef [(22, a0), (0, a1), (0, a2)] h (some (2, r), h) :=
  Ctr_of (by decide) rfl (fun z => by cases z) (nl rfl) (fun {p e R s m args below meth c A H0} => by
    exact oX12_isBadRef_b0 (K := fun z9 => z9 = r) (fun r9 z => by rw [z]) hr rfl)
/-! X12_isSo -/
theorem dX12_isSo_0 : decode cX12_isSo 0 = .ok (.iload_n 0, 1) := by decide +kernel
theorem dX12_isSo_1 : decode cX12_isSo 1 = .ok (.bipush 60, 2) := by decide +kernel
theorem dX12_isSo_3 : decode cX12_isSo 3 = .ok (.if_icmp .ne 16, 3) := by decide +kernel
theorem dX12_isSo_6 : decode cX12_isSo 6 = .ok (.iload_n 1, 1) := by decide +kernel
theorem dX12_isSo_7 : decode cX12_isSo 7 = .ok (.iload_n 2, 1) := by decide +kernel
theorem dX12_isSo_8 : decode cX12_isSo 8 = .ok (.if_icmp .ge 7, 3) := by decide +kernel
theorem dX12_isSo_11 : decode cX12_isSo 11 = .ok (.iconst 1, 1) := by decide +kernel
theorem dX12_isSo_12 : decode cX12_isSo 12 = .ok (.goto 36, 3) := by decide +kernel
theorem dX12_isSo_15 : decode cX12_isSo 15 = .ok (.iconst 0, 1) := by decide +kernel
theorem dX12_isSo_16 : decode cX12_isSo 16 = .ok (.goto 32, 3) := by decide +kernel
theorem dX12_isSo_19 : decode cX12_isSo 19 = .ok (.iload_n 0, 1) := by decide +kernel
theorem dX12_isSo_20 : decode cX12_isSo 20 = .ok (.bipush 61, 2) := by decide +kernel
theorem dX12_isSo_22 : decode cX12_isSo 22 = .ok (.if_icmp .ne 16, 3) := by decide +kernel
theorem dX12_isSo_25 : decode cX12_isSo 25 = .ok (.iload_n 1, 1) := by decide +kernel
theorem dX12_isSo_26 : decode cX12_isSo 26 = .ok (.iload_n 2, 1) := by decide +kernel
theorem dX12_isSo_27 : decode cX12_isSo 27 = .ok (.if_icmp .ne 7, 3) := by decide +kernel
theorem dX12_isSo_30 : decode cX12_isSo 30 = .ok (.iconst 1, 1) := by decide +kernel
theorem dX12_isSo_31 : decode cX12_isSo 31 = .ok (.goto 17, 3) := by decide +kernel
theorem dX12_isSo_34 : decode cX12_isSo 34 = .ok (.iconst 0, 1) := by decide +kernel
theorem dX12_isSo_35 : decode cX12_isSo 35 = .ok (.goto 13, 3) := by decide +kernel
theorem dX12_isSo_38 : decode cX12_isSo 38 = .ok (.iload_n 1, 1) := by decide +kernel
theorem dX12_isSo_39 : decode cX12_isSo 39 = .ok (.iload_n 2, 1) := by decide +kernel
theorem dX12_isSo_40 : decode cX12_isSo 40 = .ok (.if_icmp .le 7, 3) := by decide +kernel
theorem dX12_isSo_43 : decode cX12_isSo 43 = .ok (.iconst 1, 1) := by decide +kernel
theorem dX12_isSo_44 : decode cX12_isSo 44 = .ok (.goto 4, 3) := by decide +kernel
theorem dX12_isSo_47 : decode cX12_isSo 47 = .ok (.iconst 0, 1) := by decide +kernel
theorem dX12_isSo_48 : decode cX12_isSo 48 = .ok (.ireturn, 1) := by decide +kernel
abbrev M_X12_isSo : mM := (cX12_isSo, 3, RX12, some .boolean, false, 0, 0, 0, 0)
theorem gX12_isSo : cS yX12_isSo M_X12_isSo 3 := ⟨(wsl_43 _ (List.mem_of_getElem? (i := 14) rfl)), (wsl_1 _ (List.mem_of_getElem? (i := 5) rfl)), (wsl_43 _ (List.mem_of_getElem? (i := 15) rfl)), by decide +kernel⟩
noncomputable def fX12_isSo (h : hH) (a0 a1 a2 : Int) : Option (Int) :=
  if a0 = 60 then
    if a1 < a2 then
      some 1
    else
      some 0
  else
    if a0 = 61 then
      if a1 = a2 then
        some 1
      else
        some 0
    else
      if a2 < a1 then
        some 1
      else
        some 0
section M_X12_isSo
variable {p : Program} {l : Launch} {e : Env} {R : Room} {s : State} {m : MethodId} {args : Array Value} {below : List Frame} {meth : Method} {c : Code} {D : va_G} {G : gG} {A : Nat → Prop} {H0 : Heap} {n0 : Int} {x : Option vV × hH} {h : hH}
set_option maxRecDepth 100000 in
set_option maxHeartbeats 4000000 in
theorem oX12_isSo_b0 {a0 a1 a2 : Int} {K : Int → Prop} (k0 : ∀ r, K (r) → x = (some (2, r), h)) {r : Int} (hr : fX12_isSo h a0 a1 a2 = some r) (hk : K r) : Wq p l e R s m args below meth c D G A H0 true n0 M_X12_isSo x 0 0 0 [(0, (0, a0)), (1, (0, a1)), (2, (0, a2))] [] h := by
  unfold fX12_isSo at hr
  refine r_iload_n dX12_isSo_0 rfl 0 rfl (Or.inl rfl) ?_
  refine r_bipush dX12_isSo_1 (by decide) (by decide) ?_
  refine r_icmp_ne dX12_isSo_3 (tgt := 19) (by decide) (fun hc => ?_) (fun hc => ?_)
  · have hr := ifn hr hc
    refine r_iload_n dX12_isSo_19 rfl 0 rfl (Or.inl rfl) ?_
    refine r_bipush dX12_isSo_20 (by decide) (by decide) ?_
    refine r_icmp_ne dX12_isSo_22 (tgt := 38) (by decide) (fun hc => ?_) (fun hc => ?_)
    · have hr := ifn hr hc
      refine r_iload_n dX12_isSo_38 rfl 1 rfl (Or.inl rfl) ?_
      refine r_iload_n dX12_isSo_39 rfl 2 rfl (Or.inl rfl) ?_
      refine r_icmp_le dX12_isSo_40 (tgt := 47) (by decide) (fun hc => ?_) (fun hc => ?_)
      · have hr := ifn hr hc
        refine r_iconst dX12_isSo_47 (by decide) ?_
        refine r_scast 0 (v := (0, 0)) (w := (2, 0)) rfl cz (fun _ => Or.inl rfl) (st' := [(2, 0)]) rfl ?_
        obtain rfl := Option.some.inj hr
        exact r_ret dX12_isSo_48 rfl (Or.inr ⟨rfl, rfl⟩) (k0 _ hk) ⟨rfl, rfl⟩
      · have hr := ifp hr hc
        refine r_iconst dX12_isSo_43 (by decide) ?_
        refine r_goto dX12_isSo_44 (tgt := 48) (by decide) ?_
        refine r_scast 0 (v := (0, 1)) (w := (2, 1)) rfl cz (fun _ => Or.inr rfl) (st' := [(2, 1)]) rfl ?_
        obtain rfl := Option.some.inj hr
        exact r_ret dX12_isSo_48 rfl (Or.inr ⟨rfl, rfl⟩) (k0 _ hk) ⟨rfl, rfl⟩
    · have hr := ifp hr hc
      refine r_iload_n dX12_isSo_25 rfl 1 rfl (Or.inl rfl) ?_
      refine r_iload_n dX12_isSo_26 rfl 2 rfl (Or.inl rfl) ?_
      refine r_icmp_ne dX12_isSo_27 (tgt := 34) (by decide) (fun hc => ?_) (fun hc => ?_)
      · have hr := ifn hr hc
        refine r_iconst dX12_isSo_34 (by decide) ?_
        refine r_goto dX12_isSo_35 (tgt := 48) (by decide) ?_
        refine r_scast 0 (v := (0, 0)) (w := (2, 0)) rfl cz (fun _ => Or.inl rfl) (st' := [(2, 0)]) rfl ?_
        obtain rfl := Option.some.inj hr
        exact r_ret dX12_isSo_48 rfl (Or.inr ⟨rfl, rfl⟩) (k0 _ hk) ⟨rfl, rfl⟩
      · have hr := ifp hr hc
        refine r_iconst dX12_isSo_30 (by decide) ?_
        refine r_goto dX12_isSo_31 (tgt := 48) (by decide) ?_
        refine r_scast 0 (v := (0, 1)) (w := (2, 1)) rfl cz (fun _ => Or.inr rfl) (st' := [(2, 1)]) rfl ?_
        obtain rfl := Option.some.inj hr
        exact r_ret dX12_isSo_48 rfl (Or.inr ⟨rfl, rfl⟩) (k0 _ hk) ⟨rfl, rfl⟩
  · have hr := ifp hr hc
    refine r_iload_n dX12_isSo_6 rfl 1 rfl (Or.inl rfl) ?_
    refine r_iload_n dX12_isSo_7 rfl 2 rfl (Or.inl rfl) ?_
    refine r_icmp_ge dX12_isSo_8 (tgt := 15) (by decide) (fun hc => ?_) (fun hc => ?_)
    · have hr := ifn hr hc
      refine r_iconst dX12_isSo_15 (by decide) ?_
      refine r_goto dX12_isSo_16 (tgt := 48) (by decide) ?_
      refine r_scast 0 (v := (0, 0)) (w := (2, 0)) rfl cz (fun _ => Or.inl rfl) (st' := [(2, 0)]) rfl ?_
      obtain rfl := Option.some.inj hr
      exact r_ret dX12_isSo_48 rfl (Or.inr ⟨rfl, rfl⟩) (k0 _ hk) ⟨rfl, rfl⟩
    · have hr := ifp hr hc
      refine r_iconst dX12_isSo_11 (by decide) ?_
      refine r_goto dX12_isSo_12 (tgt := 48) (by decide) ?_
      refine r_scast 0 (v := (0, 1)) (w := (2, 1)) rfl cz (fun _ => Or.inr rfl) (st' := [(2, 1)]) rfl ?_
      obtain rfl := Option.some.inj hr
      exact r_ret dX12_isSo_48 rfl (Or.inr ⟨rfl, rfl⟩) (k0 _ hk) ⟨rfl, rfl⟩
end M_X12_isSo
theorem oX12_isSo {l : Launch} {D : va_G} {G : gG} {h : hH} {a0 a1 a2 : Int} {r : Int} (hr : fX12_isSo h a0 a1 a2 = some r) : Ctr l D G true yX12_isSo M_X12_isSo [(0, a0), (0, a1), (0, a2)] h (some (2, r), h) :=
  Ctr_of (by decide) rfl (fun z => by cases z) (nl rfl) (fun {p e R s m args below meth c A H0} => by
    exact oX12_isSo_b0 (K := fun z9 => z9 = r) (fun r9 z => by rw [z]) hr rfl)
/-! X12_isBadCheck -/
theorem dX12_isBadCheck_0 : decode cX12_isBadCheck 0 = .ok (.aload_n 0, 1) := by decide +kernel
theorem dX12_isBadCheck_1 : decode cX12_isBadCheck 1 = .ok (.iload_n 1, 1) := by decide +kernel
theorem dX12_isBadCheck_2 : decode cX12_isBadCheck 2 = .ok (.aload_n 0, 1) := by decide +kernel
theorem dX12_isBadCheck_3 : decode cX12_isBadCheck 3 = .ok (.getfield 33, 3) := by decide +kernel
theorem dX12_isBadCheck_6 : decode cX12_isBadCheck 6 = .ok (.bipush 118, 2) := by decide +kernel
theorem dX12_isBadCheck_8 : decode cX12_isBadCheck 8 = .ok (.iload_n 2, 1) := by decide +kernel
theorem dX12_isBadCheck_9 : decode cX12_isBadCheck 9 = .ok (.iadd, 1) := by decide +kernel
theorem dX12_isBadCheck_10 : decode cX12_isBadCheck 10 = .ok (.iaload, 1) := by decide +kernel
theorem dX12_isBadCheck_11 : decode cX12_isBadCheck 11 = .ok (.invokevirtual 320, 3) := by decide +kernel
theorem dX12_isBadCheck_14 : decode cX12_isBadCheck 14 = .ok (.istore_n 3, 1) := by decide +kernel
theorem dX12_isBadCheck_15 : decode cX12_isBadCheck 15 = .ok (.aload_n 0, 1) := by decide +kernel
theorem dX12_isBadCheck_16 : decode cX12_isBadCheck 16 = .ok (.getfield 33, 3) := by decide +kernel
theorem dX12_isBadCheck_19 : decode cX12_isBadCheck 19 = .ok (.sipush 136, 3) := by decide +kernel
theorem dX12_isBadCheck_22 : decode cX12_isBadCheck 22 = .ok (.iload_n 2, 1) := by decide +kernel
theorem dX12_isBadCheck_23 : decode cX12_isBadCheck 23 = .ok (.iadd, 1) := by decide +kernel
theorem dX12_isBadCheck_24 : decode cX12_isBadCheck 24 = .ok (.iaload, 1) := by decide +kernel
theorem dX12_isBadCheck_25 : decode cX12_isBadCheck 25 = .ok (.ifCond .ge 16, 3) := by decide +kernel
theorem dX12_isBadCheck_28 : decode cX12_isBadCheck 28 = .ok (.aload_n 0, 1) := by decide +kernel
theorem dX12_isBadCheck_29 : decode cX12_isBadCheck 29 = .ok (.getfield 33, 3) := by decide +kernel
theorem dX12_isBadCheck_32 : decode cX12_isBadCheck 32 = .ok (.sipush 130, 3) := by decide +kernel
theorem dX12_isBadCheck_35 : decode cX12_isBadCheck 35 = .ok (.iload_n 2, 1) := by decide +kernel
theorem dX12_isBadCheck_36 : decode cX12_isBadCheck 36 = .ok (.iadd, 1) := by decide +kernel
theorem dX12_isBadCheck_37 : decode cX12_isBadCheck 37 = .ok (.iaload, 1) := by decide +kernel
theorem dX12_isBadCheck_38 : decode cX12_isBadCheck 38 = .ok (.goto 18, 3) := by decide +kernel
theorem dX12_isBadCheck_41 : decode cX12_isBadCheck 41 = .ok (.aload_n 0, 1) := by decide +kernel
theorem dX12_isBadCheck_42 : decode cX12_isBadCheck 42 = .ok (.iload_n 1, 1) := by decide +kernel
theorem dX12_isBadCheck_43 : decode cX12_isBadCheck 43 = .ok (.aload_n 0, 1) := by decide +kernel
theorem dX12_isBadCheck_44 : decode cX12_isBadCheck 44 = .ok (.getfield 33, 3) := by decide +kernel
theorem dX12_isBadCheck_47 : decode cX12_isBadCheck 47 = .ok (.sipush 136, 3) := by decide +kernel
theorem dX12_isBadCheck_50 : decode cX12_isBadCheck 50 = .ok (.iload_n 2, 1) := by decide +kernel
theorem dX12_isBadCheck_51 : decode cX12_isBadCheck 51 = .ok (.iadd, 1) := by decide +kernel
theorem dX12_isBadCheck_52 : decode cX12_isBadCheck 52 = .ok (.iaload, 1) := by decide +kernel
theorem dX12_isBadCheck_53 : decode cX12_isBadCheck 53 = .ok (.invokevirtual 320, 3) := by decide +kernel
theorem dX12_isBadCheck_56 : decode cX12_isBadCheck 56 = .ok (.istore 4, 2) := by decide +kernel
theorem dX12_isBadCheck_58 : decode cX12_isBadCheck 58 = .ok (.iload_n 3, 1) := by decide +kernel
theorem dX12_isBadCheck_59 : decode cX12_isBadCheck 59 = .ok (.ifCond .lt 30, 3) := by decide +kernel
theorem dX12_isBadCheck_62 : decode cX12_isBadCheck 62 = .ok (.iload 4, 2) := by decide +kernel
theorem dX12_isBadCheck_64 : decode cX12_isBadCheck 64 = .ok (.ifCond .lt 25, 3) := by decide +kernel
theorem dX12_isBadCheck_67 : decode cX12_isBadCheck 67 = .ok (.aload_n 0, 1) := by decide +kernel
theorem dX12_isBadCheck_68 : decode cX12_isBadCheck 68 = .ok (.getfield 33, 3) := by decide +kernel
theorem dX12_isBadCheck_71 : decode cX12_isBadCheck 71 = .ok (.bipush 124, 2) := by decide +kernel
theorem dX12_isBadCheck_73 : decode cX12_isBadCheck 73 = .ok (.iload_n 2, 1) := by decide +kernel
theorem dX12_isBadCheck_74 : decode cX12_isBadCheck 74 = .ok (.iadd, 1) := by decide +kernel
theorem dX12_isBadCheck_75 : decode cX12_isBadCheck 75 = .ok (.iaload, 1) := by decide +kernel
theorem dX12_isBadCheck_76 : decode cX12_isBadCheck 76 = .ok (.iload_n 3, 1) := by decide +kernel
theorem dX12_isBadCheck_77 : decode cX12_isBadCheck 77 = .ok (.iload 4, 2) := by decide +kernel
theorem dX12_isBadCheck_79 : decode cX12_isBadCheck 79 = .ok (.invokestatic 336, 3) := by decide +kernel
theorem dX12_isBadCheck_82 : decode cX12_isBadCheck 82 = .ok (.ifCond .ne 7, 3) := by decide +kernel
theorem dX12_isBadCheck_85 : decode cX12_isBadCheck 85 = .ok (.iconst 1, 1) := by decide +kernel
theorem dX12_isBadCheck_86 : decode cX12_isBadCheck 86 = .ok (.goto 4, 3) := by decide +kernel
theorem dX12_isBadCheck_89 : decode cX12_isBadCheck 89 = .ok (.iconst 0, 1) := by decide +kernel
theorem dX12_isBadCheck_90 : decode cX12_isBadCheck 90 = .ok (.ireturn, 1) := by decide +kernel
abbrev M_X12_isBadCheck : mM := (cX12_isBadCheck, 5, RX12, some .boolean, false, 1, 22, 0, 0)
theorem gX12_isBadCheck : cI yX12_isBadCheck M_X12_isBadCheck 2 := ⟨(wsl_46 _ (List.mem_of_getElem? (i := 5) rfl)), (wsl_46 _ (List.mem_of_getElem? (i := 6) rfl)), (wsl_1 _ (List.mem_of_getElem? (i := 5) rfl)), (wsl_46 _ (List.mem_of_getElem? (i := 7) rfl)), by decide +kernel⟩
noncomputable def fX12_isBadCheck_b56 (h : hH) (a0 a2 l3 s0 : Int) : Option (Int) :=
  if l3 < 0 then
    some 0
  else
    if s0 < 0 then
      some 0
    else
      (aget h (h a0 6) (w32 (124 + a2))).bind fun v75 =>
      (fX12_isSo h v75 l3 s0).bind fun r79 =>
      if r79 = 0 then
        some 1
      else
        some 0
noncomputable def fX12_isBadCheck (h : hH) (a0 a1 a2 : Int) : Option (Int) :=
  (aget h (h a0 6) (w32 (118 + a2))).bind fun v10 =>
  (fX12_cellOf h a0 a1 v10).bind fun r11 =>
  (aget h (h a0 6) (w32 (136 + a2))).bind fun v24 =>
  if v24 < 0 then
    (aget h (h a0 6) (w32 (130 + a2))).bind fun v37 =>
    fX12_isBadCheck_b56 h a0 a2 r11 v37
  else
    (aget h (h a0 6) (w32 (136 + a2))).bind fun v52 =>
    (fX12_cellOf h a0 a1 v52).bind fun r53 =>
    fX12_isBadCheck_b56 h a0 a2 r11 r53
section M_X12_isBadCheck
variable {p : Program} {l : Launch} {e : Env} {R : Room} {s : State} {m : MethodId} {args : Array Value} {below : List Frame} {meth : Method} {c : Code} {D : va_G} {G : gG} {A : Nat → Prop} {H0 : Heap} {n0 : Int} {x : Option vV × hH} {h : hH}
set_option maxRecDepth 100000 in
set_option maxHeartbeats 4000000 in
theorem oX12_isBadCheck_b56 {a0 a2 l3 s0 : Int} {K : Int → Prop} (k0 : ∀ r, K (r) → x = (some (2, r), h)) {r : Int} (hr : fX12_isBadCheck_b56 h a0 a2 l3 s0 = some r) (hk : K r) : Wq p l e R s m args below meth c D G A H0 true n0 M_X12_isBadCheck x 0 0 56 [(0, (22, a0)), (2, (0, a2)), (3, (0, l3))] [(0, s0)] h := by
  unfold fX12_isBadCheck_b56 at hr
  refine r_istore dX12_isBadCheck_56 (Or.inl rfl) (by decide) (lv' := [(4, (0, s0)), (0, (22, a0)), (2, (0, a2)), (3, (0, l3))]) rfl ?_
  refine r_iload_n dX12_isBadCheck_58 rfl 3 rfl (Or.inl rfl) ?_
  refine r_if_lt dX12_isBadCheck_59 (tgt := 89) (by decide) (fun hc => ?_) (fun hc => ?_)
  · have hr := ifp hr hc
    refine r_iconst dX12_isBadCheck_89 (by decide) ?_
    refine r_scast 0 (v := (0, 0)) (w := (2, 0)) rfl cz (fun _ => Or.inl rfl) (st' := [(2, 0)]) rfl ?_
    obtain rfl := Option.some.inj hr
    exact r_ret dX12_isBadCheck_90 rfl (Or.inr ⟨rfl, rfl⟩) (k0 _ hk) ⟨rfl, rfl⟩
  · have hr := ifn hr hc
    refine r_iload dX12_isBadCheck_62 0 rfl (Or.inl rfl) ?_
    refine r_if_lt dX12_isBadCheck_64 (tgt := 89) (by decide) (fun hc => ?_) (fun hc => ?_)
    · have hr := ifp hr hc
      refine r_iconst dX12_isBadCheck_89 (by decide) ?_
      refine r_scast 0 (v := (0, 0)) (w := (2, 0)) rfl cz (fun _ => Or.inl rfl) (st' := [(2, 0)]) rfl ?_
      obtain rfl := Option.some.inj hr
      exact r_ret dX12_isBadCheck_90 rfl (Or.inr ⟨rfl, rfl⟩) (k0 _ hk) ⟨rfl, rfl⟩
    · have hr := ifn hr hc
      refine r_aload_n dX12_isBadCheck_67 rfl 1 rfl (nl rfl) ?_
      refine r_get 12 6 (o := a0) (w := (50, h a0 6)) (T := TX12) (ref := "FollowingRefsModel") rfl (by decide) rfl (by decide) inlX12 (wsl_7 _ (List.mem_of_getElem? (i := 8) rfl)) rfl dX12_isBadCheck_68 rfl ?_
      refine r_bipush dX12_isBadCheck_71 (by decide) (by decide) ?_
      refine r_iload_n dX12_isBadCheck_73 rfl 2 rfl (Or.inl rfl) ?_
      refine r_iadd dX12_isBadCheck_74 ?_
      obtain ⟨v75, hg75, hr⟩ := bnd hr
      refine r_iald dX12_isBadCheck_75 hg75 ?_
      refine r_iload_n dX12_isBadCheck_76 rfl 3 rfl (Or.inl rfl) ?_
      refine r_iload dX12_isBadCheck_77 0 rfl (Or.inl rfl) ?_
      obtain ⟨r79, hg79, hr⟩ := bnd hr
      refine k_S (as := [(0, v75), (0, l3), (0, s0)]) (rest := []) (X := (some (2, r79), h)) (oX12_isSo hg79) gX12_isSo rfl (wsl_43 _ (List.mem_of_getElem? (i := 13) rfl)) rfl dX12_isBadCheck_79 rfl ?_
      refine r_scast 0 (v := (2, r79)) (w := (0, r79)) rfl zc hTz (st' := [(0, r79)]) rfl ?_
      refine r_if_ne dX12_isBadCheck_82 (tgt := 89) (by decide) (fun hc => ?_) (fun hc => ?_)
      · have hr := ifn hr hc
        refine r_iconst dX12_isBadCheck_89 (by decide) ?_
        refine r_scast 0 (v := (0, 0)) (w := (2, 0)) rfl cz (fun _ => Or.inl rfl) (st' := [(2, 0)]) rfl ?_
        obtain rfl := Option.some.inj hr
        exact r_ret dX12_isBadCheck_90 rfl (Or.inr ⟨rfl, rfl⟩) (k0 _ hk) ⟨rfl, rfl⟩
      · have hr := ifp hr hc
        refine r_iconst dX12_isBadCheck_85 (by decide) ?_
        refine r_goto dX12_isBadCheck_86 (tgt := 90) (by decide) ?_
        refine r_scast 0 (v := (0, 1)) (w := (2, 1)) rfl cz (fun _ => Or.inr rfl) (st' := [(2, 1)]) rfl ?_
        obtain rfl := Option.some.inj hr
        exact r_ret dX12_isBadCheck_90 rfl (Or.inr ⟨rfl, rfl⟩) (k0 _ hk) ⟨rfl, rfl⟩
set_option maxRecDepth 100000 in
set_option maxHeartbeats 4000000 in
theorem oX12_isBadCheck_b0 {a0 a1 a2 : Int} {K : Int → Prop} (k0 : ∀ r, K (r) → x = (some (2, r), h)) {r : Int} (hr : fX12_isBadCheck h a0 a1 a2 = some r) (hk : K r) : Wq p l e R s m args below meth c D G A H0 true n0 M_X12_isBadCheck x 0 0 0 [(0, (22, a0)), (1, (0, a1)), (2, (0, a2))] [] h := by
  unfold fX12_isBadCheck at hr
  refine r_aload_n dX12_isBadCheck_0 rfl 0 rfl (nl rfl) ?_
  refine r_iload_n dX12_isBadCheck_1 rfl 1 rfl (Or.inl rfl) ?_
  refine r_aload_n dX12_isBadCheck_2 rfl 0 rfl (nl rfl) ?_
  refine r_get 12 6 (o := a0) (w := (50, h a0 6)) (T := TX12) (ref := "FollowingRefsModel") rfl (by decide) rfl (by decide) inlX12 (wsl_7 _ (List.mem_of_getElem? (i := 8) rfl)) rfl dX12_isBadCheck_3 rfl ?_
  refine r_bipush dX12_isBadCheck_6 (by decide) (by decide) ?_
  refine r_iload_n dX12_isBadCheck_8 rfl 2 rfl (Or.inl rfl) ?_
  refine r_iadd dX12_isBadCheck_9 ?_
  obtain ⟨v10, hg10, hr⟩ := bnd hr
  refine r_iald dX12_isBadCheck_10 hg10 ?_
  obtain ⟨r11, hg11, hr⟩ := bnd hr
  refine k_V (ci := 12) (o := a0) (T := TX12) (as := [(0, a1), (0, v10)]) (rest := []) (X := (some (0, r11), h)) (oX12_cellOf hg11) gX12_cellOf rfl (by decide) rfl (wsl_42 _ (List.mem_of_getElem? (i := 17) rfl)) rfl dX12_isBadCheck_11 rfl ?_
  refine r_istore_n dX12_isBadCheck_14 rfl (Or.inl rfl) (by decide) (lv' := [(3, (0, r11)), (0, (22, a0)), (1, (0, a1)), (2, (0, a2))]) rfl ?_
  refine r_aload_n dX12_isBadCheck_15 rfl 1 rfl (nl rfl) ?_
  refine r_get 12 6 (o := a0) (w := (50, h a0 6)) (T := TX12) (ref := "FollowingRefsModel") rfl (by decide) rfl (by decide) inlX12 (wsl_7 _ (List.mem_of_getElem? (i := 8) rfl)) rfl dX12_isBadCheck_16 rfl ?_
  refine r_sipush dX12_isBadCheck_19 (by decide) (by decide) ?_
  refine r_iload_n dX12_isBadCheck_22 rfl 3 rfl (Or.inl rfl) ?_
  refine r_iadd dX12_isBadCheck_23 ?_
  obtain ⟨v24, hg24, hr⟩ := bnd hr
  refine r_iald dX12_isBadCheck_24 hg24 ?_
  refine r_if_ge dX12_isBadCheck_25 (tgt := 41) (by decide) (fun hc => ?_) (fun hc => ?_)
  · have hr := ifn hr hc
    refine r_aload_n dX12_isBadCheck_41 rfl 1 rfl (nl rfl) ?_
    refine r_iload_n dX12_isBadCheck_42 rfl 2 rfl (Or.inl rfl) ?_
    refine r_aload_n dX12_isBadCheck_43 rfl 1 rfl (nl rfl) ?_
    refine r_get 12 6 (o := a0) (w := (50, h a0 6)) (T := TX12) (ref := "FollowingRefsModel") rfl (by decide) rfl (by decide) inlX12 (wsl_7 _ (List.mem_of_getElem? (i := 8) rfl)) rfl dX12_isBadCheck_44 rfl ?_
    refine r_sipush dX12_isBadCheck_47 (by decide) (by decide) ?_
    refine r_iload_n dX12_isBadCheck_50 rfl 3 rfl (Or.inl rfl) ?_
    refine r_iadd dX12_isBadCheck_51 ?_
    obtain ⟨v52, hg52, hr⟩ := bnd hr
    refine r_iald dX12_isBadCheck_52 hg52 ?_
    obtain ⟨r53, hg53, hr⟩ := bnd hr
    refine k_V (ci := 12) (o := a0) (T := TX12) (as := [(0, a1), (0, v52)]) (rest := []) (X := (some (0, r53), h)) (oX12_cellOf hg53) gX12_cellOf rfl (by decide) rfl (wsl_42 _ (List.mem_of_getElem? (i := 17) rfl)) rfl dX12_isBadCheck_53 rfl ?_
    refine r_sub [1, 3, 0] (lv' := [(0, (22, a0)), (2, (0, a2)), (3, (0, r11))]) rfl ?_
    exact oX12_isBadCheck_b56 (K := K) (fun r z => k0 r z) hr hk
  · have hr := ifp hr hc
    refine r_aload_n dX12_isBadCheck_28 rfl 1 rfl (nl rfl) ?_
    refine r_get 12 6 (o := a0) (w := (50, h a0 6)) (T := TX12) (ref := "FollowingRefsModel") rfl (by decide) rfl (by decide) inlX12 (wsl_7 _ (List.mem_of_getElem? (i := 8) rfl)) rfl dX12_isBadCheck_29 rfl ?_
    refine r_sipush dX12_isBadCheck_32 (by decide) (by decide) ?_
    refine r_iload_n dX12_isBadCheck_35 rfl 3 rfl (Or.inl rfl) ?_
    refine r_iadd dX12_isBadCheck_36 ?_
    obtain ⟨v37, hg37, hr⟩ := bnd hr
    refine r_iald dX12_isBadCheck_37 hg37 ?_
    refine r_goto dX12_isBadCheck_38 (tgt := 56) (by decide) ?_
    refine r_sub [1, 3, 0] (lv' := [(0, (22, a0)), (2, (0, a2)), (3, (0, r11))]) rfl ?_
    exact oX12_isBadCheck_b56 (K := K) (fun r z => k0 r z) hr hk
end M_X12_isBadCheck
theorem oX12_isBadCheck {l : Launch} {D : va_G} {G : gG} {h : hH} {a0 a1 a2 : Int} {r : Int} (hr : fX12_isBadCheck h a0 a1 a2 = some r) : Ctr l D G true yX12_isBadCheck M_X12_isBadCheck [(22, a0), (0, a1), (0, a2)] h (some (2, r), h) :=
  Ctr_of (by decide) rfl (fun z => by cases z) (nl rfl) (fun {p e R s m args below meth c A H0} => by
    exact oX12_isBadCheck_b0 (K := fun z9 => z9 = r) (fun r9 z => by rw [z]) hr rfl)
/-! X12_judgesAll -/
theorem dX12_judgesAll_0 : decode cX12_judgesAll 0 = .ok (.aload_n 0, 1) := by decide +kernel
theorem dX12_judgesAll_1 : decode cX12_judgesAll 1 = .ok (.iconst 0, 1) := by decide +kernel
theorem dX12_judgesAll_2 : decode cX12_judgesAll 2 = .ok (.putfield 327, 3) := by decide +kernel
theorem dX12_judgesAll_5 : decode cX12_judgesAll 5 = .ok (.iconst 0, 1) := by decide +kernel
theorem dX12_judgesAll_6 : decode cX12_judgesAll 6 = .ok (.istore_n 2, 1) := by decide +kernel
theorem dX12_judgesAll_7 : decode cX12_judgesAll 7 = .ok (.iload_n 2, 1) := by decide +kernel
theorem dX12_judgesAll_8 : decode cX12_judgesAll 8 = .ok (.aload_n 0, 1) := by decide +kernel
theorem dX12_judgesAll_9 : decode cX12_judgesAll 9 = .ok (.getfield 33, 3) := by decide +kernel
theorem dX12_judgesAll_12 : decode cX12_judgesAll 12 = .ok (.iconst 0, 1) := by decide +kernel
theorem dX12_judgesAll_13 : decode cX12_judgesAll 13 = .ok (.iaload, 1) := by decide +kernel
theorem dX12_judgesAll_14 : decode cX12_judgesAll 14 = .ok (.if_icmp .ge 85, 3) := by decide +kernel
theorem dX12_judgesAll_17 : decode cX12_judgesAll 17 = .ok (.iconst 0, 1) := by decide +kernel
theorem dX12_judgesAll_18 : decode cX12_judgesAll 18 = .ok (.istore_n 3, 1) := by decide +kernel
theorem dX12_judgesAll_19 : decode cX12_judgesAll 19 = .ok (.iload_n 3, 1) := by decide +kernel
theorem dX12_judgesAll_20 : decode cX12_judgesAll 20 = .ok (.aload_n 0, 1) := by decide +kernel
theorem dX12_judgesAll_21 : decode cX12_judgesAll 21 = .ok (.getfield 33, 3) := by decide +kernel
theorem dX12_judgesAll_24 : decode cX12_judgesAll 24 = .ok (.iconst 4, 1) := by decide +kernel
theorem dX12_judgesAll_25 : decode cX12_judgesAll 25 = .ok (.iload_n 2, 1) := by decide +kernel
theorem dX12_judgesAll_26 : decode cX12_judgesAll 26 = .ok (.iadd, 1) := by decide +kernel
theorem dX12_judgesAll_27 : decode cX12_judgesAll 27 = .ok (.iaload, 1) := by decide +kernel
theorem dX12_judgesAll_28 : decode cX12_judgesAll 28 = .ok (.if_icmp .ge 65, 3) := by decide +kernel
theorem dX12_judgesAll_31 : decode cX12_judgesAll 31 = .ok (.aload_n 0, 1) := by decide +kernel
theorem dX12_judgesAll_32 : decode cX12_judgesAll 32 = .ok (.iload_n 2, 1) := by decide +kernel
theorem dX12_judgesAll_33 : decode cX12_judgesAll 33 = .ok (.iload_n 3, 1) := by decide +kernel
theorem dX12_judgesAll_34 : decode cX12_judgesAll 34 = .ok (.invokevirtual 339, 3) := by decide +kernel
theorem dX12_judgesAll_37 : decode cX12_judgesAll 37 = .ok (.ifCond .ne 6, 3) := by decide +kernel
theorem dX12_judgesAll_40 : decode cX12_judgesAll 40 = .ok (.goto 47, 3) := by decide +kernel
theorem dX12_judgesAll_43 : decode cX12_judgesAll 43 = .ok (.iconst 0, 1) := by decide +kernel
theorem dX12_judgesAll_44 : decode cX12_judgesAll 44 = .ok (.istore 4, 2) := by decide +kernel
theorem dX12_judgesAll_46 : decode cX12_judgesAll 46 = .ok (.iload 4, 2) := by decide +kernel
theorem dX12_judgesAll_48 : decode cX12_judgesAll 48 = .ok (.bipush 99, 2) := by decide +kernel
theorem dX12_judgesAll_50 : decode cX12_judgesAll 50 = .ok (.if_icmp .ge 37, 3) := by decide +kernel
theorem dX12_judgesAll_53 : decode cX12_judgesAll 53 = .ok (.aload_n 0, 1) := by decide +kernel
theorem dX12_judgesAll_54 : decode cX12_judgesAll 54 = .ok (.iload 4, 2) := by decide +kernel
theorem dX12_judgesAll_56 : decode cX12_judgesAll 56 = .ok (.iload_n 2, 1) := by decide +kernel
theorem dX12_judgesAll_57 : decode cX12_judgesAll 57 = .ok (.invokevirtual 330, 3) := by decide +kernel
theorem dX12_judgesAll_60 : decode cX12_judgesAll 60 = .ok (.ifCond .eq 21, 3) := by decide +kernel
theorem dX12_judgesAll_63 : decode cX12_judgesAll 63 = .ok (.aload_n 0, 1) := by decide +kernel
theorem dX12_judgesAll_64 : decode cX12_judgesAll 64 = .ok (.iload 4, 2) := by decide +kernel
theorem dX12_judgesAll_66 : decode cX12_judgesAll 66 = .ok (.iload_n 3, 1) := by decide +kernel
theorem dX12_judgesAll_67 : decode cX12_judgesAll 67 = .ok (.invokevirtual 320, 3) := by decide +kernel
theorem dX12_judgesAll_70 : decode cX12_judgesAll 70 = .ok (.ifCond .ge 11, 3) := by decide +kernel
theorem dX12_judgesAll_73 : decode cX12_judgesAll 73 = .ok (.aload_n 0, 1) := by decide +kernel
theorem dX12_judgesAll_74 : decode cX12_judgesAll 74 = .ok (.iconst 1, 1) := by decide +kernel
theorem dX12_judgesAll_75 : decode cX12_judgesAll 75 = .ok (.iload_n 3, 1) := by decide +kernel
theorem dX12_judgesAll_76 : decode cX12_judgesAll 76 = .ok (.iload 4, 2) := by decide +kernel
theorem dX12_judgesAll_78 : decode cX12_judgesAll 78 = .ok (.invokevirtual 342, 3) := by decide +kernel
theorem dX12_judgesAll_81 : decode cX12_judgesAll 81 = .ok (.iinc 4 1, 3) := by decide +kernel
theorem dX12_judgesAll_84 : decode cX12_judgesAll 84 = .ok (.goto (-38), 3) := by decide +kernel
theorem dX12_judgesAll_87 : decode cX12_judgesAll 87 = .ok (.iinc 3 1, 3) := by decide +kernel
theorem dX12_judgesAll_90 : decode cX12_judgesAll 90 = .ok (.goto (-71), 3) := by decide +kernel
theorem dX12_judgesAll_93 : decode cX12_judgesAll 93 = .ok (.iinc 2 1, 3) := by decide +kernel
theorem dX12_judgesAll_96 : decode cX12_judgesAll 96 = .ok (.goto (-89), 3) := by decide +kernel
theorem dX12_judgesAll_99 : decode cX12_judgesAll 99 = .ok (.iconst 0, 1) := by decide +kernel
theorem dX12_judgesAll_100 : decode cX12_judgesAll 100 = .ok (.istore_n 2, 1) := by decide +kernel
theorem dX12_judgesAll_101 : decode cX12_judgesAll 101 = .ok (.iload_n 2, 1) := by decide +kernel
theorem dX12_judgesAll_102 : decode cX12_judgesAll 102 = .ok (.aload_n 0, 1) := by decide +kernel
theorem dX12_judgesAll_103 : decode cX12_judgesAll 103 = .ok (.getfield 33, 3) := by decide +kernel
theorem dX12_judgesAll_106 : decode cX12_judgesAll 106 = .ok (.iconst 1, 1) := by decide +kernel
theorem dX12_judgesAll_107 : decode cX12_judgesAll 107 = .ok (.iaload, 1) := by decide +kernel
theorem dX12_judgesAll_108 : decode cX12_judgesAll 108 = .ok (.if_icmp .ge 56, 3) := by decide +kernel
theorem dX12_judgesAll_111 : decode cX12_judgesAll 111 = .ok (.iconst 0, 1) := by decide +kernel
theorem dX12_judgesAll_112 : decode cX12_judgesAll 112 = .ok (.istore_n 3, 1) := by decide +kernel
theorem dX12_judgesAll_113 : decode cX12_judgesAll 113 = .ok (.iload_n 3, 1) := by decide +kernel
theorem dX12_judgesAll_114 : decode cX12_judgesAll 114 = .ok (.bipush 99, 2) := by decide +kernel
theorem dX12_judgesAll_116 : decode cX12_judgesAll 116 = .ok (.if_icmp .ge 42, 3) := by decide +kernel
theorem dX12_judgesAll_119 : decode cX12_judgesAll 119 = .ok (.aload_n 0, 1) := by decide +kernel
theorem dX12_judgesAll_120 : decode cX12_judgesAll 120 = .ok (.iload_n 3, 1) := by decide +kernel
theorem dX12_judgesAll_121 : decode cX12_judgesAll 121 = .ok (.aload_n 0, 1) := by decide +kernel
theorem dX12_judgesAll_122 : decode cX12_judgesAll 122 = .ok (.getfield 33, 3) := by decide +kernel
theorem dX12_judgesAll_125 : decode cX12_judgesAll 125 = .ok (.bipush 40, 2) := by decide +kernel
theorem dX12_judgesAll_127 : decode cX12_judgesAll 127 = .ok (.iload_n 2, 1) := by decide +kernel
theorem dX12_judgesAll_128 : decode cX12_judgesAll 128 = .ok (.iadd, 1) := by decide +kernel
theorem dX12_judgesAll_129 : decode cX12_judgesAll 129 = .ok (.iaload, 1) := by decide +kernel
theorem dX12_judgesAll_130 : decode cX12_judgesAll 130 = .ok (.invokevirtual 330, 3) := by decide +kernel
theorem dX12_judgesAll_133 : decode cX12_judgesAll 133 = .ok (.ifCond .eq 19, 3) := by decide +kernel
theorem dX12_judgesAll_136 : decode cX12_judgesAll 136 = .ok (.aload_n 0, 1) := by decide +kernel
theorem dX12_judgesAll_137 : decode cX12_judgesAll 137 = .ok (.iload_n 3, 1) := by decide +kernel
theorem dX12_judgesAll_138 : decode cX12_judgesAll 138 = .ok (.iload_n 2, 1) := by decide +kernel
theorem dX12_judgesAll_139 : decode cX12_judgesAll 139 = .ok (.invokevirtual 346, 3) := by decide +kernel
theorem dX12_judgesAll_142 : decode cX12_judgesAll 142 = .ok (.ifCond .eq 10, 3) := by decide +kernel
theorem dX12_judgesAll_145 : decode cX12_judgesAll 145 = .ok (.aload_n 0, 1) := by decide +kernel
theorem dX12_judgesAll_146 : decode cX12_judgesAll 146 = .ok (.iconst 2, 1) := by decide +kernel
theorem dX12_judgesAll_147 : decode cX12_judgesAll 147 = .ok (.iload_n 2, 1) := by decide +kernel
theorem dX12_judgesAll_148 : decode cX12_judgesAll 148 = .ok (.iload_n 3, 1) := by decide +kernel
theorem dX12_judgesAll_149 : decode cX12_judgesAll 149 = .ok (.invokevirtual 342, 3) := by decide +kernel
theorem dX12_judgesAll_152 : decode cX12_judgesAll 152 = .ok (.iinc 3 1, 3) := by decide +kernel
theorem dX12_judgesAll_155 : decode cX12_judgesAll 155 = .ok (.goto (-42), 3) := by decide +kernel
theorem dX12_judgesAll_158 : decode cX12_judgesAll 158 = .ok (.iinc 2 1, 3) := by decide +kernel
theorem dX12_judgesAll_161 : decode cX12_judgesAll 161 = .ok (.goto (-60), 3) := by decide +kernel
theorem dX12_judgesAll_164 : decode cX12_judgesAll 164 = .ok (.iconst 0, 1) := by decide +kernel
theorem dX12_judgesAll_165 : decode cX12_judgesAll 165 = .ok (.istore_n 2, 1) := by decide +kernel
theorem dX12_judgesAll_166 : decode cX12_judgesAll 166 = .ok (.iload_n 2, 1) := by decide +kernel
theorem dX12_judgesAll_167 : decode cX12_judgesAll 167 = .ok (.aload_n 0, 1) := by decide +kernel
theorem dX12_judgesAll_168 : decode cX12_judgesAll 168 = .ok (.getfield 33, 3) := by decide +kernel
theorem dX12_judgesAll_171 : decode cX12_judgesAll 171 = .ok (.iconst 2, 1) := by decide +kernel
theorem dX12_judgesAll_172 : decode cX12_judgesAll 172 = .ok (.iaload, 1) := by decide +kernel
theorem dX12_judgesAll_173 : decode cX12_judgesAll 173 = .ok (.if_icmp .ge 76, 3) := by decide +kernel
theorem dX12_judgesAll_176 : decode cX12_judgesAll 176 = .ok (.iload_n 1, 1) := by decide +kernel
theorem dX12_judgesAll_177 : decode cX12_judgesAll 177 = .ok (.ifCond .ne 19, 3) := by decide +kernel
theorem dX12_judgesAll_180 : decode cX12_judgesAll 180 = .ok (.aload_n 0, 1) := by decide +kernel
theorem dX12_judgesAll_181 : decode cX12_judgesAll 181 = .ok (.getfield 33, 3) := by decide +kernel
theorem dX12_judgesAll_184 : decode cX12_judgesAll 184 = .ok (.bipush 106, 2) := by decide +kernel
theorem dX12_judgesAll_186 : decode cX12_judgesAll 186 = .ok (.iload_n 2, 1) := by decide +kernel
theorem dX12_judgesAll_187 : decode cX12_judgesAll 187 = .ok (.iadd, 1) := by decide +kernel
theorem dX12_judgesAll_188 : decode cX12_judgesAll 188 = .ok (.iaload, 1) := by decide +kernel
theorem dX12_judgesAll_189 : decode cX12_judgesAll 189 = .ok (.iconst 1, 1) := by decide +kernel
theorem dX12_judgesAll_190 : decode cX12_judgesAll 190 = .ok (.if_icmp .ne 6, 3) := by decide +kernel
theorem dX12_judgesAll_193 : decode cX12_judgesAll 193 = .ok (.goto 50, 3) := by decide +kernel
theorem dX12_judgesAll_196 : decode cX12_judgesAll 196 = .ok (.iconst 0, 1) := by decide +kernel
theorem dX12_judgesAll_197 : decode cX12_judgesAll 197 = .ok (.istore_n 3, 1) := by decide +kernel
theorem dX12_judgesAll_198 : decode cX12_judgesAll 198 = .ok (.iload_n 3, 1) := by decide +kernel
theorem dX12_judgesAll_199 : decode cX12_judgesAll 199 = .ok (.bipush 99, 2) := by decide +kernel
theorem dX12_judgesAll_201 : decode cX12_judgesAll 201 = .ok (.if_icmp .ge 42, 3) := by decide +kernel
theorem dX12_judgesAll_204 : decode cX12_judgesAll 204 = .ok (.aload_n 0, 1) := by decide +kernel
theorem dX12_judgesAll_205 : decode cX12_judgesAll 205 = .ok (.iload_n 3, 1) := by decide +kernel
theorem dX12_judgesAll_206 : decode cX12_judgesAll 206 = .ok (.aload_n 0, 1) := by decide +kernel
theorem dX12_judgesAll_207 : decode cX12_judgesAll 207 = .ok (.getfield 33, 3) := by decide +kernel
theorem dX12_judgesAll_210 : decode cX12_judgesAll 210 = .ok (.bipush 58, 2) := by decide +kernel
theorem dX12_judgesAll_212 : decode cX12_judgesAll 212 = .ok (.iload_n 2, 1) := by decide +kernel
theorem dX12_judgesAll_213 : decode cX12_judgesAll 213 = .ok (.iadd, 1) := by decide +kernel
theorem dX12_judgesAll_214 : decode cX12_judgesAll 214 = .ok (.iaload, 1) := by decide +kernel
theorem dX12_judgesAll_215 : decode cX12_judgesAll 215 = .ok (.invokevirtual 330, 3) := by decide +kernel
theorem dX12_judgesAll_218 : decode cX12_judgesAll 218 = .ok (.ifCond .eq 19, 3) := by decide +kernel
theorem dX12_judgesAll_221 : decode cX12_judgesAll 221 = .ok (.aload_n 0, 1) := by decide +kernel
theorem dX12_judgesAll_222 : decode cX12_judgesAll 222 = .ok (.iload_n 3, 1) := by decide +kernel
theorem dX12_judgesAll_223 : decode cX12_judgesAll 223 = .ok (.iload_n 2, 1) := by decide +kernel
theorem dX12_judgesAll_224 : decode cX12_judgesAll 224 = .ok (.invokevirtual 349, 3) := by decide +kernel
theorem dX12_judgesAll_227 : decode cX12_judgesAll 227 = .ok (.ifCond .eq 10, 3) := by decide +kernel
theorem dX12_judgesAll_230 : decode cX12_judgesAll 230 = .ok (.aload_n 0, 1) := by decide +kernel
theorem dX12_judgesAll_231 : decode cX12_judgesAll 231 = .ok (.iconst 3, 1) := by decide +kernel
theorem dX12_judgesAll_232 : decode cX12_judgesAll 232 = .ok (.iload_n 2, 1) := by decide +kernel
theorem dX12_judgesAll_233 : decode cX12_judgesAll 233 = .ok (.iload_n 3, 1) := by decide +kernel
theorem dX12_judgesAll_234 : decode cX12_judgesAll 234 = .ok (.invokevirtual 342, 3) := by decide +kernel
theorem dX12_judgesAll_237 : decode cX12_judgesAll 237 = .ok (.iinc 3 1, 3) := by decide +kernel
theorem dX12_judgesAll_240 : decode cX12_judgesAll 240 = .ok (.goto (-42), 3) := by decide +kernel
theorem dX12_judgesAll_243 : decode cX12_judgesAll 243 = .ok (.iinc 2 1, 3) := by decide +kernel
theorem dX12_judgesAll_246 : decode cX12_judgesAll 246 = .ok (.goto (-80), 3) := by decide +kernel
theorem dX12_judgesAll_249 : decode cX12_judgesAll 249 = .ok (.iconst 0, 1) := by decide +kernel
theorem dX12_judgesAll_250 : decode cX12_judgesAll 250 = .ok (.istore_n 2, 1) := by decide +kernel
theorem dX12_judgesAll_251 : decode cX12_judgesAll 251 = .ok (.iload_n 2, 1) := by decide +kernel
theorem dX12_judgesAll_252 : decode cX12_judgesAll 252 = .ok (.aload_n 0, 1) := by decide +kernel
theorem dX12_judgesAll_253 : decode cX12_judgesAll 253 = .ok (.getfield 33, 3) := by decide +kernel
theorem dX12_judgesAll_256 : decode cX12_judgesAll 256 = .ok (.iconst 3, 1) := by decide +kernel
theorem dX12_judgesAll_257 : decode cX12_judgesAll 257 = .ok (.iaload, 1) := by decide +kernel
theorem dX12_judgesAll_258 : decode cX12_judgesAll 258 = .ok (.if_icmp .ge 77, 3) := by decide +kernel
theorem dX12_judgesAll_261 : decode cX12_judgesAll 261 = .ok (.iload_n 1, 1) := by decide +kernel
theorem dX12_judgesAll_262 : decode cX12_judgesAll 262 = .ok (.ifCond .ne 20, 3) := by decide +kernel
theorem dX12_judgesAll_265 : decode cX12_judgesAll 265 = .ok (.aload_n 0, 1) := by decide +kernel
theorem dX12_judgesAll_266 : decode cX12_judgesAll 266 = .ok (.getfield 33, 3) := by decide +kernel
theorem dX12_judgesAll_269 : decode cX12_judgesAll 269 = .ok (.sipush 142, 3) := by decide +kernel
theorem dX12_judgesAll_272 : decode cX12_judgesAll 272 = .ok (.iload_n 2, 1) := by decide +kernel
theorem dX12_judgesAll_273 : decode cX12_judgesAll 273 = .ok (.iadd, 1) := by decide +kernel
theorem dX12_judgesAll_274 : decode cX12_judgesAll 274 = .ok (.iaload, 1) := by decide +kernel
theorem dX12_judgesAll_275 : decode cX12_judgesAll 275 = .ok (.iconst 1, 1) := by decide +kernel
theorem dX12_judgesAll_276 : decode cX12_judgesAll 276 = .ok (.if_icmp .ne 6, 3) := by decide +kernel
theorem dX12_judgesAll_279 : decode cX12_judgesAll 279 = .ok (.goto 50, 3) := by decide +kernel
theorem dX12_judgesAll_282 : decode cX12_judgesAll 282 = .ok (.iconst 0, 1) := by decide +kernel
theorem dX12_judgesAll_283 : decode cX12_judgesAll 283 = .ok (.istore_n 3, 1) := by decide +kernel
theorem dX12_judgesAll_284 : decode cX12_judgesAll 284 = .ok (.iload_n 3, 1) := by decide +kernel
theorem dX12_judgesAll_285 : decode cX12_judgesAll 285 = .ok (.bipush 99, 2) := by decide +kernel
theorem dX12_judgesAll_287 : decode cX12_judgesAll 287 = .ok (.if_icmp .ge 42, 3) := by decide +kernel
theorem dX12_judgesAll_290 : decode cX12_judgesAll 290 = .ok (.aload_n 0, 1) := by decide +kernel
theorem dX12_judgesAll_291 : decode cX12_judgesAll 291 = .ok (.iload_n 3, 1) := by decide +kernel
theorem dX12_judgesAll_292 : decode cX12_judgesAll 292 = .ok (.aload_n 0, 1) := by decide +kernel
theorem dX12_judgesAll_293 : decode cX12_judgesAll 293 = .ok (.getfield 33, 3) := by decide +kernel
theorem dX12_judgesAll_296 : decode cX12_judgesAll 296 = .ok (.bipush 112, 2) := by decide +kernel
theorem dX12_judgesAll_298 : decode cX12_judgesAll 298 = .ok (.iload_n 2, 1) := by decide +kernel
theorem dX12_judgesAll_299 : decode cX12_judgesAll 299 = .ok (.iadd, 1) := by decide +kernel
theorem dX12_judgesAll_300 : decode cX12_judgesAll 300 = .ok (.iaload, 1) := by decide +kernel
theorem dX12_judgesAll_301 : decode cX12_judgesAll 301 = .ok (.invokevirtual 330, 3) := by decide +kernel
theorem dX12_judgesAll_304 : decode cX12_judgesAll 304 = .ok (.ifCond .eq 19, 3) := by decide +kernel
theorem dX12_judgesAll_307 : decode cX12_judgesAll 307 = .ok (.aload_n 0, 1) := by decide +kernel
theorem dX12_judgesAll_308 : decode cX12_judgesAll 308 = .ok (.iload_n 3, 1) := by decide +kernel
theorem dX12_judgesAll_309 : decode cX12_judgesAll 309 = .ok (.iload_n 2, 1) := by decide +kernel
theorem dX12_judgesAll_310 : decode cX12_judgesAll 310 = .ok (.invokevirtual 352, 3) := by decide +kernel
theorem dX12_judgesAll_313 : decode cX12_judgesAll 313 = .ok (.ifCond .eq 10, 3) := by decide +kernel
theorem dX12_judgesAll_316 : decode cX12_judgesAll 316 = .ok (.aload_n 0, 1) := by decide +kernel
theorem dX12_judgesAll_317 : decode cX12_judgesAll 317 = .ok (.iconst 4, 1) := by decide +kernel
theorem dX12_judgesAll_318 : decode cX12_judgesAll 318 = .ok (.iload_n 2, 1) := by decide +kernel
theorem dX12_judgesAll_319 : decode cX12_judgesAll 319 = .ok (.iload_n 3, 1) := by decide +kernel
theorem dX12_judgesAll_320 : decode cX12_judgesAll 320 = .ok (.invokevirtual 342, 3) := by decide +kernel
theorem dX12_judgesAll_323 : decode cX12_judgesAll 323 = .ok (.iinc 3 1, 3) := by decide +kernel
theorem dX12_judgesAll_326 : decode cX12_judgesAll 326 = .ok (.goto (-42), 3) := by decide +kernel
theorem dX12_judgesAll_329 : decode cX12_judgesAll 329 = .ok (.iinc 2 1, 3) := by decide +kernel
theorem dX12_judgesAll_332 : decode cX12_judgesAll 332 = .ok (.goto (-81), 3) := by decide +kernel
theorem dX12_judgesAll_335 : decode cX12_judgesAll 335 = .ok (.return_, 1) := by decide +kernel
abbrev M_X12_judgesAll : mM := (cX12_judgesAll, 5, RX12, none, false, 4, 95, 0, 0)
theorem gX12_judgesAll : cI yX12_judgesAll M_X12_judgesAll 1 := ⟨(wsl_45 _ (List.mem_of_getElem? (i := 9) rfl)), (wsl_45 _ (List.mem_of_getElem? (i := 10) rfl)), (wsl_1 _ (List.mem_of_getElem? (i := 5) rfl)), (wsl_45 _ (List.mem_of_getElem? (i := 11) rfl)), by decide +kernel⟩
noncomputable def fX12_judgesAll_s46 (h0 : hH) (a0 a1 l2 l3 : Int) : hH × Int → Option ((hH × Int) ⊕ ((hH × Int) ⊕ ((hH × Int) ⊕ (hH)))) := fun (h, l4) =>
  if l4 < 99 then
    (fX12_isRowOf h a0 l4 l2).bind fun r57 =>
    if r57 = 0 then
      some (.inl (h, w32 (l4 + 1)))
    else
      (fX12_cellOf h a0 l4 l3).bind fun r67 =>
      if r67 < 0 then
        (fX12_violates h a0 1 l3 l4).bind fun h78 =>
        some (.inl (h78, w32 (l4 + 1)))
      else
        some (.inl (h, w32 (l4 + 1)))
  else
    some (.inr (.inl (h, w32 (l3 + 1))))
noncomputable def fX12_judgesAll_s19 (h0 : hH) (a0 a1 l2 : Int) : hH × Int → Option ((hH × Int) ⊕ ((hH × Int) ⊕ (hH))) := fun (h, l3) =>
  (aget h (h a0 6) (w32 (4 + l2))).bind fun v27 =>
  if l3 < v27 then
    (fX12_isNeeded h a0 l2 l3).bind fun r34 =>
    if r34 = 0 then
      some (.inl (h, w32 (l3 + 1)))
    else
      lpO (fX12_judgesAll_s46 h a0 a1 l2 l3) (h, 0)
  else
    some (.inr (.inl (h, w32 (l2 + 1))))
noncomputable def fX12_judgesAll_s113 (h0 : hH) (a0 a1 l2 : Int) : hH × Int → Option ((hH × Int) ⊕ ((hH × Int) ⊕ (hH))) := fun (h, l3) =>
  if l3 < 99 then
    (aget h (h a0 6) (w32 (40 + l2))).bind fun v129 =>
    (fX12_isRowOf h a0 l3 v129).bind fun r130 =>
    if r130 = 0 then
      some (.inl (h, w32 (l3 + 1)))
    else
      (fX12_isLikeEarlier h a0 l3 l2).bind fun r139 =>
      if r139 = 0 then
        some (.inl (h, w32 (l3 + 1)))
      else
        (fX12_violates h a0 2 l2 l3).bind fun h149 =>
        some (.inl (h149, w32 (l3 + 1)))
  else
    some (.inr (.inl (h, w32 (l2 + 1))))
noncomputable def fX12_judgesAll_s198 (h0 : hH) (a0 a1 l2 : Int) : hH × Int → Option ((hH × Int) ⊕ ((hH × Int) ⊕ (hH))) := fun (h, l3) =>
  if l3 < 99 then
    (aget h (h a0 6) (w32 (58 + l2))).bind fun v214 =>
    (fX12_isRowOf h a0 l3 v214).bind fun r215 =>
    if r215 = 0 then
      some (.inl (h, w32 (l3 + 1)))
    else
      (fX12_isBadRef h a0 l3 l2).bind fun r224 =>
      if r224 = 0 then
        some (.inl (h, w32 (l3 + 1)))
      else
        (fX12_violates h a0 3 l2 l3).bind fun h234 =>
        some (.inl (h234, w32 (l3 + 1)))
  else
    some (.inr (.inl (h, w32 (l2 + 1))))
noncomputable def fX12_judgesAll_b196 (h : hH) (a0 a1 l2 : Int) : Option ((hH × Int) ⊕ (hH)) :=
  lpO (fX12_judgesAll_s198 h a0 a1 l2) (h, 0)
noncomputable def fX12_judgesAll_s284 (h0 : hH) (a0 a1 l2 : Int) : hH × Int → Option ((hH × Int) ⊕ ((hH × Int) ⊕ (hH))) := fun (h, l3) =>
  if l3 < 99 then
    (aget h (h a0 6) (w32 (112 + l2))).bind fun v300 =>
    (fX12_isRowOf h a0 l3 v300).bind fun r301 =>
    if r301 = 0 then
      some (.inl (h, w32 (l3 + 1)))
    else
      (fX12_isBadCheck h a0 l3 l2).bind fun r310 =>
      if r310 = 0 then
        some (.inl (h, w32 (l3 + 1)))
      else
        (fX12_violates h a0 4 l2 l3).bind fun h320 =>
        some (.inl (h320, w32 (l3 + 1)))
  else
    some (.inr (.inl (h, w32 (l2 + 1))))
noncomputable def fX12_judgesAll_b282 (h : hH) (a0 a1 l2 : Int) : Option ((hH × Int) ⊕ (hH)) :=
  lpO (fX12_judgesAll_s284 h a0 a1 l2) (h, 0)
noncomputable def fX12_judgesAll_s251 (h0 : hH) (a0 a1 : Int) : hH × Int → Option ((hH × Int) ⊕ (hH)) := fun (h, l2) =>
  (aget h (h a0 6) 3).bind fun v257 =>
  if l2 < v257 then
    if a1 = 0 then
      (aget h (h a0 6) (w32 (142 + l2))).bind fun v274 =>
      if v274 = 1 then
        some (.inl (h, w32 (l2 + 1)))
      else
        fX12_judgesAll_b282 h a0 a1 l2
    else
      fX12_judgesAll_b282 h a0 a1 l2
  else
    some (.inr (h))
noncomputable def fX12_judgesAll_s166 (h0 : hH) (a0 a1 : Int) : hH × Int → Option ((hH × Int) ⊕ (hH)) := fun (h, l2) =>
  (aget h (h a0 6) 2).bind fun v172 =>
  if l2 < v172 then
    if a1 = 0 then
      (aget h (h a0 6) (w32 (106 + l2))).bind fun v188 =>
      if v188 = 1 then
        some (.inl (h, w32 (l2 + 1)))
      else
        fX12_judgesAll_b196 h a0 a1 l2
    else
      fX12_judgesAll_b196 h a0 a1 l2
  else
    (lpO (fX12_judgesAll_s251 h a0 a1) (h, 0)).map (fun z9 => .inr (z9))
noncomputable def fX12_judgesAll_s101 (h0 : hH) (a0 a1 : Int) : hH × Int → Option ((hH × Int) ⊕ (hH)) := fun (h, l2) =>
  (aget h (h a0 6) 1).bind fun v107 =>
  if l2 < v107 then
    lpO (fX12_judgesAll_s113 h a0 a1 l2) (h, 0)
  else
    (lpO (fX12_judgesAll_s166 h a0 a1) (h, 0)).map (fun z9 => .inr (z9))
noncomputable def fX12_judgesAll_s7 (h0 : hH) (a0 a1 : Int) : hH × Int → Option ((hH × Int) ⊕ (hH)) := fun (h, l2) =>
  (aget h (h a0 6) 0).bind fun v13 =>
  if l2 < v13 then
    lpO (fX12_judgesAll_s19 h a0 a1 l2) (h, 0)
  else
    (lpO (fX12_judgesAll_s101 h a0 a1) (h, 0)).map (fun z9 => .inr (z9))
noncomputable def fX12_judgesAll (h : hH) (a0 a1 : Int) : Option (hH) :=
  (pput h a0 26 0).bind fun h2 =>
  lpO (fX12_judgesAll_s7 h2 a0 a1) (h2, 0)
section M_X12_judgesAll
variable {p : Program} {l : Launch} {e : Env} {R : Room} {s : State} {m : MethodId} {args : Array Value} {below : List Frame} {meth : Method} {c : Code} {D : va_G} {G : gG} {A : Nat → Prop} {H0 : Heap} {n0 : Int} {x : Option vV × hH} {h : hH}
set_option maxRecDepth 100000 in
set_option maxHeartbeats 4000000 in
theorem oX12_judgesAll_s46 {h0 : hH} {a0 a1 l2 l3 l4 : Int} {K : (hH × Int) ⊕ ((hH × Int) ⊕ ((hH × Int) ⊕ (hH))) → Prop} (k0 : ∀ r, K (.inr (.inr (.inr (r)))) → x = (none, r)) (k1 : ∀ (h : hH) (l2 : Int), K (.inr (.inr (.inl (h, l2)))) → Wq p l e R s m args below meth c D G A H0 true n0 M_X12_judgesAll x 0 0 7 [(0, (22, a0)), (1, (2, a1)), (2, (0, l2))] [] h) (k2 : ∀ (h : hH) (l3 : Int), K (.inr (.inl (h, l3))) → Wq p l e R s m args below meth c D G A H0 true n0 M_X12_judgesAll x 0 0 19 [(0, (22, a0)), (1, (2, a1)), (2, (0, l2)), (3, (0, l3))] [] h) (k3 : ∀ (h : hH) (l4 : Int), K (.inl (h, l4)) → Wq p l e R s m args below meth c D G A H0 true n0 M_X12_judgesAll x 0 0 46 [(0, (22, a0)), (1, (2, a1)), (2, (0, l2)), (3, (0, l3)), (4, (0, l4))] [] h) {r : (hH × Int) ⊕ ((hH × Int) ⊕ ((hH × Int) ⊕ (hH)))} (hr : fX12_judgesAll_s46 h0 a0 a1 l2 l3 (h, l4) = some r) (hk : K r) : Wq p l e R s m args below meth c D G A H0 true n0 M_X12_judgesAll x 0 0 46 [(0, (22, a0)), (1, (2, a1)), (2, (0, l2)), (3, (0, l3)), (4, (0, l4))] [] h := by
  unfold fX12_judgesAll_s46 at hr
  refine r_iload dX12_judgesAll_46 4 rfl (Or.inl rfl) ?_
  refine r_bipush dX12_judgesAll_48 (by decide) (by decide) ?_
  refine r_icmp_ge dX12_judgesAll_50 (tgt := 87) (by decide) (fun hc => ?_) (fun hc => ?_)
  · have hr := ifn hr hc
    refine r_iinc (k := 3) (v := l3) dX12_judgesAll_87 rfl (by decide) (lv' := [(3, (0, w32 (l3 + 1))), (0, (22, a0)), (1, (2, a1)), (2, (0, l2)), (4, (0, l4))]) rfl ?_
    refine r_goto dX12_judgesAll_90 (tgt := 19) (by decide) ?_
    refine r_sub [1, 2, 3, 0] (lv' := [(0, (22, a0)), (1, (2, a1)), (2, (0, l2)), (3, (0, w32 (l3 + 1)))]) rfl ?_
    obtain rfl := Option.some.inj hr
    exact k2 _ _ hk
  · have hr := ifp hr hc
    refine r_aload_n dX12_judgesAll_53 rfl 0 rfl (nl rfl) ?_
    refine r_iload dX12_judgesAll_54 4 rfl (Or.inl rfl) ?_
    refine r_iload_n dX12_judgesAll_56 rfl 2 rfl (Or.inl rfl) ?_
    obtain ⟨r57, hg57, hr⟩ := bnd hr
    refine k_V (ci := 12) (o := a0) (T := TX12) (as := [(0, l4), (0, l2)]) (rest := []) (X := (some (2, r57), h)) (oX12_isRowOf hg57) gX12_isRowOf rfl (by decide) rfl (wsl_43 _ (List.mem_of_getElem? (i := 9) rfl)) rfl dX12_judgesAll_57 rfl ?_
    refine r_scast 0 (v := (2, r57)) (w := (0, r57)) rfl zc hTz (st' := [(0, r57)]) rfl ?_
    refine r_if_eq dX12_judgesAll_60 (tgt := 81) (by decide) (fun hc => ?_) (fun hc => ?_)
    · have hr := ifp hr hc
      refine r_iinc (k := 4) (v := l4) dX12_judgesAll_81 rfl (by decide) (lv' := [(4, (0, w32 (l4 + 1))), (0, (22, a0)), (1, (2, a1)), (2, (0, l2)), (3, (0, l3))]) rfl ?_
      refine r_goto dX12_judgesAll_84 (tgt := 46) (by decide) ?_
      refine r_sub [1, 2, 3, 4, 0] (lv' := [(0, (22, a0)), (1, (2, a1)), (2, (0, l2)), (3, (0, l3)), (4, (0, w32 (l4 + 1)))]) rfl ?_
      obtain rfl := Option.some.inj hr
      exact k3 _ _ hk
    · have hr := ifn hr hc
      refine r_aload_n dX12_judgesAll_63 rfl 0 rfl (nl rfl) ?_
      refine r_iload dX12_judgesAll_64 4 rfl (Or.inl rfl) ?_
      refine r_iload_n dX12_judgesAll_66 rfl 3 rfl (Or.inl rfl) ?_
      obtain ⟨r67, hg67, hr⟩ := bnd hr
      refine k_V (ci := 12) (o := a0) (T := TX12) (as := [(0, l4), (0, l3)]) (rest := []) (X := (some (0, r67), h)) (oX12_cellOf hg67) gX12_cellOf rfl (by decide) rfl (wsl_42 _ (List.mem_of_getElem? (i := 17) rfl)) rfl dX12_judgesAll_67 rfl ?_
      refine r_if_ge dX12_judgesAll_70 (tgt := 81) (by decide) (fun hc => ?_) (fun hc => ?_)
      · have hr := ifn hr hc
        refine r_iinc (k := 4) (v := l4) dX12_judgesAll_81 rfl (by decide) (lv' := [(4, (0, w32 (l4 + 1))), (0, (22, a0)), (1, (2, a1)), (2, (0, l2)), (3, (0, l3))]) rfl ?_
        refine r_goto dX12_judgesAll_84 (tgt := 46) (by decide) ?_
        refine r_sub [1, 2, 3, 4, 0] (lv' := [(0, (22, a0)), (1, (2, a1)), (2, (0, l2)), (3, (0, l3)), (4, (0, w32 (l4 + 1)))]) rfl ?_
        obtain rfl := Option.some.inj hr
        exact k3 _ _ hk
      · have hr := ifp hr hc
        refine r_aload_n dX12_judgesAll_73 rfl 0 rfl (nl rfl) ?_
        refine r_iconst dX12_judgesAll_74 (by decide) ?_
        refine r_iload_n dX12_judgesAll_75 rfl 3 rfl (Or.inl rfl) ?_
        refine r_iload dX12_judgesAll_76 4 rfl (Or.inl rfl) ?_
        obtain ⟨h78, hg78, hr⟩ := bnd hr
        refine k_V (ci := 12) (o := a0) (T := TX12) (as := [(0, 1), (0, l3), (0, l4)]) (rest := []) (X := (none, h78)) (oX12_violates hg78) gX12_violates rfl (by decide) rfl (wsl_45 _ (List.mem_of_getElem? (i := 16) rfl)) rfl dX12_judgesAll_78 rfl ?_
        refine r_iinc (k := 4) (v := l4) dX12_judgesAll_81 rfl (by decide) (lv' := [(4, (0, w32 (l4 + 1))), (0, (22, a0)), (1, (2, a1)), (2, (0, l2)), (3, (0, l3))]) rfl ?_
        refine r_goto dX12_judgesAll_84 (tgt := 46) (by decide) ?_
        refine r_sub [1, 2, 3, 4, 0] (lv' := [(0, (22, a0)), (1, (2, a1)), (2, (0, l2)), (3, (0, l3)), (4, (0, w32 (l4 + 1)))]) rfl ?_
        obtain rfl := Option.some.inj hr
        exact k3 _ _ hk
set_option maxRecDepth 100000 in
set_option maxHeartbeats 4000000 in
theorem oX12_judgesAll_s19 {h0 : hH} {a0 a1 l2 l3 : Int} {K : (hH × Int) ⊕ ((hH × Int) ⊕ (hH)) → Prop} (k0 : ∀ r, K (.inr (.inr (r))) → x = (none, r)) (k1 : ∀ (h : hH) (l2 : Int), K (.inr (.inl (h, l2))) → Wq p l e R s m args below meth c D G A H0 true n0 M_X12_judgesAll x 0 0 7 [(0, (22, a0)), (1, (2, a1)), (2, (0, l2))] [] h) (k2 : ∀ (h : hH) (l3 : Int), K (.inl (h, l3)) → Wq p l e R s m args below meth c D G A H0 true n0 M_X12_judgesAll x 0 0 19 [(0, (22, a0)), (1, (2, a1)), (2, (0, l2)), (3, (0, l3))] [] h) {r : (hH × Int) ⊕ ((hH × Int) ⊕ (hH))} (hr : fX12_judgesAll_s19 h0 a0 a1 l2 (h, l3) = some r) (hk : K r) : Wq p l e R s m args below meth c D G A H0 true n0 M_X12_judgesAll x 0 0 19 [(0, (22, a0)), (1, (2, a1)), (2, (0, l2)), (3, (0, l3))] [] h := by
  unfold fX12_judgesAll_s19 at hr
  refine r_iload_n dX12_judgesAll_19 rfl 3 rfl (Or.inl rfl) ?_
  refine r_aload_n dX12_judgesAll_20 rfl 0 rfl (nl rfl) ?_
  refine r_get 12 6 (o := a0) (w := (50, h a0 6)) (T := TX12) (ref := "FollowingRefsModel") rfl (by decide) rfl (by decide) inlX12 (wsl_7 _ (List.mem_of_getElem? (i := 8) rfl)) rfl dX12_judgesAll_21 rfl ?_
  refine r_iconst dX12_judgesAll_24 (by decide) ?_
  refine r_iload_n dX12_judgesAll_25 rfl 2 rfl (Or.inl rfl) ?_
  refine r_iadd dX12_judgesAll_26 ?_
  obtain ⟨v27, hg27, hr⟩ := bnd hr
  refine r_iald dX12_judgesAll_27 hg27 ?_
  refine r_icmp_ge dX12_judgesAll_28 (tgt := 93) (by decide) (fun hc => ?_) (fun hc => ?_)
  · have hr := ifn hr hc
    refine r_iinc (k := 2) (v := l2) dX12_judgesAll_93 rfl (by decide) (lv' := [(2, (0, w32 (l2 + 1))), (0, (22, a0)), (1, (2, a1)), (3, (0, l3))]) rfl ?_
    refine r_goto dX12_judgesAll_96 (tgt := 7) (by decide) ?_
    refine r_sub [1, 2, 0] (lv' := [(0, (22, a0)), (1, (2, a1)), (2, (0, w32 (l2 + 1)))]) rfl ?_
    obtain rfl := Option.some.inj hr
    exact k1 _ _ hk
  · have hr := ifp hr hc
    refine r_aload_n dX12_judgesAll_31 rfl 0 rfl (nl rfl) ?_
    refine r_iload_n dX12_judgesAll_32 rfl 2 rfl (Or.inl rfl) ?_
    refine r_iload_n dX12_judgesAll_33 rfl 3 rfl (Or.inl rfl) ?_
    obtain ⟨r34, hg34, hr⟩ := bnd hr
    refine k_V (ci := 12) (o := a0) (T := TX12) (as := [(0, l2), (0, l3)]) (rest := []) (X := (some (2, r34), h)) (oX12_isNeeded hg34) gX12_isNeeded rfl (by decide) rfl (wsl_45 _ (List.mem_of_getElem? (i := 12) rfl)) rfl dX12_judgesAll_34 rfl ?_
    refine r_scast 0 (v := (2, r34)) (w := (0, r34)) rfl zc hTz (st' := [(0, r34)]) rfl ?_
    refine r_if_ne dX12_judgesAll_37 (tgt := 43) (by decide) (fun hc => ?_) (fun hc => ?_)
    · have hr := ifn hr hc
      refine r_iconst dX12_judgesAll_43 (by decide) ?_
      refine r_istore dX12_judgesAll_44 (Or.inl rfl) (by decide) (lv' := [(4, (0, 0)), (0, (22, a0)), (1, (2, a1)), (2, (0, l2)), (3, (0, l3))]) rfl ?_
      refine r_sub [1, 2, 3, 4, 0] (lv' := [(0, (22, a0)), (1, (2, a1)), (2, (0, l2)), (3, (0, l3)), (4, (0, 0))]) rfl ?_
      exact lp_ok (w := fun (q : hH × Int) => Wq p l e R s m args below meth c D G A H0 true n0 M_X12_judgesAll x 0 0 46 [(0, (22, a0)), (1, (2, a1)), (2, (0, l2)), (3, (0, l3)), (4, (0, q.2))] [] (q.1)) (K := K) (fun ⟨q0, q1⟩ r h1 h2 => oX12_judgesAll_s46 (K := Sum.elim (fun (q : hH × Int) => Wq p l e R s m args below meth c D G A H0 true n0 M_X12_judgesAll x 0 0 46 [(0, (22, a0)), (1, (2, a1)), (2, (0, l2)), (3, (0, l3)), (4, (0, q.2))] [] (q.1)) (K)) (fun r z => k0 r z) (fun _ _ z => k1 _ _ z) (fun _ _ z => k2 _ _ z) (fun _ _ z => z) h1 h2) hr hk
    · have hr := ifp hr hc
      refine r_goto dX12_judgesAll_40 (tgt := 87) (by decide) ?_
      refine r_iinc (k := 3) (v := l3) dX12_judgesAll_87 rfl (by decide) (lv' := [(3, (0, w32 (l3 + 1))), (0, (22, a0)), (1, (2, a1)), (2, (0, l2))]) rfl ?_
      refine r_goto dX12_judgesAll_90 (tgt := 19) (by decide) ?_
      refine r_sub [1, 2, 3, 0] (lv' := [(0, (22, a0)), (1, (2, a1)), (2, (0, l2)), (3, (0, w32 (l3 + 1)))]) rfl ?_
      obtain rfl := Option.some.inj hr
      exact k2 _ _ hk
set_option maxRecDepth 100000 in
set_option maxHeartbeats 4000000 in
theorem oX12_judgesAll_s113 {h0 : hH} {a0 a1 l2 l3 : Int} {K : (hH × Int) ⊕ ((hH × Int) ⊕ (hH)) → Prop} (k0 : ∀ r, K (.inr (.inr (r))) → x = (none, r)) (k1 : ∀ (h : hH) (l2 : Int), K (.inr (.inl (h, l2))) → Wq p l e R s m args below meth c D G A H0 true n0 M_X12_judgesAll x 0 0 101 [(0, (22, a0)), (1, (2, a1)), (2, (0, l2))] [] h) (k2 : ∀ (h : hH) (l3 : Int), K (.inl (h, l3)) → Wq p l e R s m args below meth c D G A H0 true n0 M_X12_judgesAll x 0 0 113 [(0, (22, a0)), (1, (2, a1)), (2, (0, l2)), (3, (0, l3))] [] h) {r : (hH × Int) ⊕ ((hH × Int) ⊕ (hH))} (hr : fX12_judgesAll_s113 h0 a0 a1 l2 (h, l3) = some r) (hk : K r) : Wq p l e R s m args below meth c D G A H0 true n0 M_X12_judgesAll x 0 0 113 [(0, (22, a0)), (1, (2, a1)), (2, (0, l2)), (3, (0, l3))] [] h := by
  unfold fX12_judgesAll_s113 at hr
  refine r_iload_n dX12_judgesAll_113 rfl 3 rfl (Or.inl rfl) ?_
  refine r_bipush dX12_judgesAll_114 (by decide) (by decide) ?_
  refine r_icmp_ge dX12_judgesAll_116 (tgt := 158) (by decide) (fun hc => ?_) (fun hc => ?_)
  · have hr := ifn hr hc
    refine r_iinc (k := 2) (v := l2) dX12_judgesAll_158 rfl (by decide) (lv' := [(2, (0, w32 (l2 + 1))), (0, (22, a0)), (1, (2, a1)), (3, (0, l3))]) rfl ?_
    refine r_goto dX12_judgesAll_161 (tgt := 101) (by decide) ?_
    refine r_sub [1, 2, 0] (lv' := [(0, (22, a0)), (1, (2, a1)), (2, (0, w32 (l2 + 1)))]) rfl ?_
    obtain rfl := Option.some.inj hr
    exact k1 _ _ hk
  · have hr := ifp hr hc
    refine r_aload_n dX12_judgesAll_119 rfl 0 rfl (nl rfl) ?_
    refine r_iload_n dX12_judgesAll_120 rfl 3 rfl (Or.inl rfl) ?_
    refine r_aload_n dX12_judgesAll_121 rfl 0 rfl (nl rfl) ?_
    refine r_get 12 6 (o := a0) (w := (50, h a0 6)) (T := TX12) (ref := "FollowingRefsModel") rfl (by decide) rfl (by decide) inlX12 (wsl_7 _ (List.mem_of_getElem? (i := 8) rfl)) rfl dX12_judgesAll_122 rfl ?_
    refine r_bipush dX12_judgesAll_125 (by decide) (by decide) ?_
    refine r_iload_n dX12_judgesAll_127 rfl 2 rfl (Or.inl rfl) ?_
    refine r_iadd dX12_judgesAll_128 ?_
    obtain ⟨v129, hg129, hr⟩ := bnd hr
    refine r_iald dX12_judgesAll_129 hg129 ?_
    obtain ⟨r130, hg130, hr⟩ := bnd hr
    refine k_V (ci := 12) (o := a0) (T := TX12) (as := [(0, l3), (0, v129)]) (rest := []) (X := (some (2, r130), h)) (oX12_isRowOf hg130) gX12_isRowOf rfl (by decide) rfl (wsl_43 _ (List.mem_of_getElem? (i := 9) rfl)) rfl dX12_judgesAll_130 rfl ?_
    refine r_scast 0 (v := (2, r130)) (w := (0, r130)) rfl zc hTz (st' := [(0, r130)]) rfl ?_
    refine r_if_eq dX12_judgesAll_133 (tgt := 152) (by decide) (fun hc => ?_) (fun hc => ?_)
    · have hr := ifp hr hc
      refine r_iinc (k := 3) (v := l3) dX12_judgesAll_152 rfl (by decide) (lv' := [(3, (0, w32 (l3 + 1))), (0, (22, a0)), (1, (2, a1)), (2, (0, l2))]) rfl ?_
      refine r_goto dX12_judgesAll_155 (tgt := 113) (by decide) ?_
      refine r_sub [1, 2, 3, 0] (lv' := [(0, (22, a0)), (1, (2, a1)), (2, (0, l2)), (3, (0, w32 (l3 + 1)))]) rfl ?_
      obtain rfl := Option.some.inj hr
      exact k2 _ _ hk
    · have hr := ifn hr hc
      refine r_aload_n dX12_judgesAll_136 rfl 0 rfl (nl rfl) ?_
      refine r_iload_n dX12_judgesAll_137 rfl 3 rfl (Or.inl rfl) ?_
      refine r_iload_n dX12_judgesAll_138 rfl 2 rfl (Or.inl rfl) ?_
      obtain ⟨r139, hg139, hr⟩ := bnd hr
      refine k_V (ci := 12) (o := a0) (T := TX12) (as := [(0, l3), (0, l2)]) (rest := []) (X := (some (2, r139), h)) (oX12_isLikeEarlier hg139) gX12_isLikeEarlier rfl (by decide) rfl (wsl_45 _ (List.mem_of_getElem? (i := 20) rfl)) rfl dX12_judgesAll_139 rfl ?_
      refine r_scast 0 (v := (2, r139)) (w := (0, r139)) rfl zc hTz (st' := [(0, r139)]) rfl ?_
      refine r_if_eq dX12_judgesAll_142 (tgt := 152) (by decide) (fun hc => ?_) (fun hc => ?_)
      · have hr := ifp hr hc
        refine r_iinc (k := 3) (v := l3) dX12_judgesAll_152 rfl (by decide) (lv' := [(3, (0, w32 (l3 + 1))), (0, (22, a0)), (1, (2, a1)), (2, (0, l2))]) rfl ?_
        refine r_goto dX12_judgesAll_155 (tgt := 113) (by decide) ?_
        refine r_sub [1, 2, 3, 0] (lv' := [(0, (22, a0)), (1, (2, a1)), (2, (0, l2)), (3, (0, w32 (l3 + 1)))]) rfl ?_
        obtain rfl := Option.some.inj hr
        exact k2 _ _ hk
      · have hr := ifn hr hc
        refine r_aload_n dX12_judgesAll_145 rfl 0 rfl (nl rfl) ?_
        refine r_iconst dX12_judgesAll_146 (by decide) ?_
        refine r_iload_n dX12_judgesAll_147 rfl 2 rfl (Or.inl rfl) ?_
        refine r_iload_n dX12_judgesAll_148 rfl 3 rfl (Or.inl rfl) ?_
        obtain ⟨h149, hg149, hr⟩ := bnd hr
        refine k_V (ci := 12) (o := a0) (T := TX12) (as := [(0, 2), (0, l2), (0, l3)]) (rest := []) (X := (none, h149)) (oX12_violates hg149) gX12_violates rfl (by decide) rfl (wsl_45 _ (List.mem_of_getElem? (i := 16) rfl)) rfl dX12_judgesAll_149 rfl ?_
        refine r_iinc (k := 3) (v := l3) dX12_judgesAll_152 rfl (by decide) (lv' := [(3, (0, w32 (l3 + 1))), (0, (22, a0)), (1, (2, a1)), (2, (0, l2))]) rfl ?_
        refine r_goto dX12_judgesAll_155 (tgt := 113) (by decide) ?_
        refine r_sub [1, 2, 3, 0] (lv' := [(0, (22, a0)), (1, (2, a1)), (2, (0, l2)), (3, (0, w32 (l3 + 1)))]) rfl ?_
        obtain rfl := Option.some.inj hr
        exact k2 _ _ hk
set_option maxRecDepth 100000 in
set_option maxHeartbeats 4000000 in
theorem oX12_judgesAll_s198 {h0 : hH} {a0 a1 l2 l3 : Int} {K : (hH × Int) ⊕ ((hH × Int) ⊕ (hH)) → Prop} (k0 : ∀ r, K (.inr (.inr (r))) → x = (none, r)) (k1 : ∀ (h : hH) (l2 : Int), K (.inr (.inl (h, l2))) → Wq p l e R s m args below meth c D G A H0 true n0 M_X12_judgesAll x 0 0 166 [(0, (22, a0)), (1, (2, a1)), (2, (0, l2))] [] h) (k2 : ∀ (h : hH) (l3 : Int), K (.inl (h, l3)) → Wq p l e R s m args below meth c D G A H0 true n0 M_X12_judgesAll x 0 0 198 [(0, (22, a0)), (1, (2, a1)), (2, (0, l2)), (3, (0, l3))] [] h) {r : (hH × Int) ⊕ ((hH × Int) ⊕ (hH))} (hr : fX12_judgesAll_s198 h0 a0 a1 l2 (h, l3) = some r) (hk : K r) : Wq p l e R s m args below meth c D G A H0 true n0 M_X12_judgesAll x 0 0 198 [(0, (22, a0)), (1, (2, a1)), (2, (0, l2)), (3, (0, l3))] [] h := by
  unfold fX12_judgesAll_s198 at hr
  refine r_iload_n dX12_judgesAll_198 rfl 3 rfl (Or.inl rfl) ?_
  refine r_bipush dX12_judgesAll_199 (by decide) (by decide) ?_
  refine r_icmp_ge dX12_judgesAll_201 (tgt := 243) (by decide) (fun hc => ?_) (fun hc => ?_)
  · have hr := ifn hr hc
    refine r_iinc (k := 2) (v := l2) dX12_judgesAll_243 rfl (by decide) (lv' := [(2, (0, w32 (l2 + 1))), (0, (22, a0)), (1, (2, a1)), (3, (0, l3))]) rfl ?_
    refine r_goto dX12_judgesAll_246 (tgt := 166) (by decide) ?_
    refine r_sub [1, 2, 0] (lv' := [(0, (22, a0)), (1, (2, a1)), (2, (0, w32 (l2 + 1)))]) rfl ?_
    obtain rfl := Option.some.inj hr
    exact k1 _ _ hk
  · have hr := ifp hr hc
    refine r_aload_n dX12_judgesAll_204 rfl 0 rfl (nl rfl) ?_
    refine r_iload_n dX12_judgesAll_205 rfl 3 rfl (Or.inl rfl) ?_
    refine r_aload_n dX12_judgesAll_206 rfl 0 rfl (nl rfl) ?_
    refine r_get 12 6 (o := a0) (w := (50, h a0 6)) (T := TX12) (ref := "FollowingRefsModel") rfl (by decide) rfl (by decide) inlX12 (wsl_7 _ (List.mem_of_getElem? (i := 8) rfl)) rfl dX12_judgesAll_207 rfl ?_
    refine r_bipush dX12_judgesAll_210 (by decide) (by decide) ?_
    refine r_iload_n dX12_judgesAll_212 rfl 2 rfl (Or.inl rfl) ?_
    refine r_iadd dX12_judgesAll_213 ?_
    obtain ⟨v214, hg214, hr⟩ := bnd hr
    refine r_iald dX12_judgesAll_214 hg214 ?_
    obtain ⟨r215, hg215, hr⟩ := bnd hr
    refine k_V (ci := 12) (o := a0) (T := TX12) (as := [(0, l3), (0, v214)]) (rest := []) (X := (some (2, r215), h)) (oX12_isRowOf hg215) gX12_isRowOf rfl (by decide) rfl (wsl_43 _ (List.mem_of_getElem? (i := 9) rfl)) rfl dX12_judgesAll_215 rfl ?_
    refine r_scast 0 (v := (2, r215)) (w := (0, r215)) rfl zc hTz (st' := [(0, r215)]) rfl ?_
    refine r_if_eq dX12_judgesAll_218 (tgt := 237) (by decide) (fun hc => ?_) (fun hc => ?_)
    · have hr := ifp hr hc
      refine r_iinc (k := 3) (v := l3) dX12_judgesAll_237 rfl (by decide) (lv' := [(3, (0, w32 (l3 + 1))), (0, (22, a0)), (1, (2, a1)), (2, (0, l2))]) rfl ?_
      refine r_goto dX12_judgesAll_240 (tgt := 198) (by decide) ?_
      refine r_sub [1, 2, 3, 0] (lv' := [(0, (22, a0)), (1, (2, a1)), (2, (0, l2)), (3, (0, w32 (l3 + 1)))]) rfl ?_
      obtain rfl := Option.some.inj hr
      exact k2 _ _ hk
    · have hr := ifn hr hc
      refine r_aload_n dX12_judgesAll_221 rfl 0 rfl (nl rfl) ?_
      refine r_iload_n dX12_judgesAll_222 rfl 3 rfl (Or.inl rfl) ?_
      refine r_iload_n dX12_judgesAll_223 rfl 2 rfl (Or.inl rfl) ?_
      obtain ⟨r224, hg224, hr⟩ := bnd hr
      refine k_V (ci := 12) (o := a0) (T := TX12) (as := [(0, l3), (0, l2)]) (rest := []) (X := (some (2, r224), h)) (oX12_isBadRef hg224) gX12_isBadRef rfl (by decide) rfl (wsl_46 _ (List.mem_of_getElem? (i := 0) rfl)) rfl dX12_judgesAll_224 rfl ?_
      refine r_scast 0 (v := (2, r224)) (w := (0, r224)) rfl zc hTz (st' := [(0, r224)]) rfl ?_
      refine r_if_eq dX12_judgesAll_227 (tgt := 237) (by decide) (fun hc => ?_) (fun hc => ?_)
      · have hr := ifp hr hc
        refine r_iinc (k := 3) (v := l3) dX12_judgesAll_237 rfl (by decide) (lv' := [(3, (0, w32 (l3 + 1))), (0, (22, a0)), (1, (2, a1)), (2, (0, l2))]) rfl ?_
        refine r_goto dX12_judgesAll_240 (tgt := 198) (by decide) ?_
        refine r_sub [1, 2, 3, 0] (lv' := [(0, (22, a0)), (1, (2, a1)), (2, (0, l2)), (3, (0, w32 (l3 + 1)))]) rfl ?_
        obtain rfl := Option.some.inj hr
        exact k2 _ _ hk
      · have hr := ifn hr hc
        refine r_aload_n dX12_judgesAll_230 rfl 0 rfl (nl rfl) ?_
        refine r_iconst dX12_judgesAll_231 (by decide) ?_
        refine r_iload_n dX12_judgesAll_232 rfl 2 rfl (Or.inl rfl) ?_
        refine r_iload_n dX12_judgesAll_233 rfl 3 rfl (Or.inl rfl) ?_
        obtain ⟨h234, hg234, hr⟩ := bnd hr
        refine k_V (ci := 12) (o := a0) (T := TX12) (as := [(0, 3), (0, l2), (0, l3)]) (rest := []) (X := (none, h234)) (oX12_violates hg234) gX12_violates rfl (by decide) rfl (wsl_45 _ (List.mem_of_getElem? (i := 16) rfl)) rfl dX12_judgesAll_234 rfl ?_
        refine r_iinc (k := 3) (v := l3) dX12_judgesAll_237 rfl (by decide) (lv' := [(3, (0, w32 (l3 + 1))), (0, (22, a0)), (1, (2, a1)), (2, (0, l2))]) rfl ?_
        refine r_goto dX12_judgesAll_240 (tgt := 198) (by decide) ?_
        refine r_sub [1, 2, 3, 0] (lv' := [(0, (22, a0)), (1, (2, a1)), (2, (0, l2)), (3, (0, w32 (l3 + 1)))]) rfl ?_
        obtain rfl := Option.some.inj hr
        exact k2 _ _ hk
set_option maxRecDepth 100000 in
set_option maxHeartbeats 4000000 in
theorem oX12_judgesAll_b196 {a0 a1 l2 : Int} {K : (hH × Int) ⊕ (hH) → Prop} (k0 : ∀ r, K (.inr (r)) → x = (none, r)) (k1 : ∀ (h : hH) (l2 : Int), K (.inl (h, l2)) → Wq p l e R s m args below meth c D G A H0 true n0 M_X12_judgesAll x 0 0 166 [(0, (22, a0)), (1, (2, a1)), (2, (0, l2))] [] h) {r : (hH × Int) ⊕ (hH)} (hr : fX12_judgesAll_b196 h a0 a1 l2 = some r) (hk : K r) : Wq p l e R s m args below meth c D G A H0 true n0 M_X12_judgesAll x 0 0 196 [(0, (22, a0)), (1, (2, a1)), (2, (0, l2))] [] h := by
  unfold fX12_judgesAll_b196 at hr
  refine r_iconst dX12_judgesAll_196 (by decide) ?_
  refine r_istore_n dX12_judgesAll_197 rfl (Or.inl rfl) (by decide) (lv' := [(3, (0, 0)), (0, (22, a0)), (1, (2, a1)), (2, (0, l2))]) rfl ?_
  refine r_sub [1, 2, 3, 0] (lv' := [(0, (22, a0)), (1, (2, a1)), (2, (0, l2)), (3, (0, 0))]) rfl ?_
  exact lp_ok (w := fun (q : hH × Int) => Wq p l e R s m args below meth c D G A H0 true n0 M_X12_judgesAll x 0 0 198 [(0, (22, a0)), (1, (2, a1)), (2, (0, l2)), (3, (0, q.2))] [] (q.1)) (K := K) (fun ⟨q0, q1⟩ r h1 h2 => oX12_judgesAll_s198 (K := Sum.elim (fun (q : hH × Int) => Wq p l e R s m args below meth c D G A H0 true n0 M_X12_judgesAll x 0 0 198 [(0, (22, a0)), (1, (2, a1)), (2, (0, l2)), (3, (0, q.2))] [] (q.1)) (K)) (fun r z => k0 r z) (fun _ _ z => k1 _ _ z) (fun _ _ z => z) h1 h2) hr hk
set_option maxRecDepth 100000 in
set_option maxHeartbeats 4000000 in
theorem oX12_judgesAll_s284 {h0 : hH} {a0 a1 l2 l3 : Int} {K : (hH × Int) ⊕ ((hH × Int) ⊕ (hH)) → Prop} (k0 : ∀ r, K (.inr (.inr (r))) → x = (none, r)) (k1 : ∀ (h : hH) (l2 : Int), K (.inr (.inl (h, l2))) → Wq p l e R s m args below meth c D G A H0 true n0 M_X12_judgesAll x 0 0 251 [(0, (22, a0)), (1, (2, a1)), (2, (0, l2))] [] h) (k2 : ∀ (h : hH) (l3 : Int), K (.inl (h, l3)) → Wq p l e R s m args below meth c D G A H0 true n0 M_X12_judgesAll x 0 0 284 [(0, (22, a0)), (1, (2, a1)), (2, (0, l2)), (3, (0, l3))] [] h) {r : (hH × Int) ⊕ ((hH × Int) ⊕ (hH))} (hr : fX12_judgesAll_s284 h0 a0 a1 l2 (h, l3) = some r) (hk : K r) : Wq p l e R s m args below meth c D G A H0 true n0 M_X12_judgesAll x 0 0 284 [(0, (22, a0)), (1, (2, a1)), (2, (0, l2)), (3, (0, l3))] [] h := by
  unfold fX12_judgesAll_s284 at hr
  refine r_iload_n dX12_judgesAll_284 rfl 3 rfl (Or.inl rfl) ?_
  refine r_bipush dX12_judgesAll_285 (by decide) (by decide) ?_
  refine r_icmp_ge dX12_judgesAll_287 (tgt := 329) (by decide) (fun hc => ?_) (fun hc => ?_)
  · have hr := ifn hr hc
    refine r_iinc (k := 2) (v := l2) dX12_judgesAll_329 rfl (by decide) (lv' := [(2, (0, w32 (l2 + 1))), (0, (22, a0)), (1, (2, a1)), (3, (0, l3))]) rfl ?_
    refine r_goto dX12_judgesAll_332 (tgt := 251) (by decide) ?_
    refine r_sub [1, 2, 0] (lv' := [(0, (22, a0)), (1, (2, a1)), (2, (0, w32 (l2 + 1)))]) rfl ?_
    obtain rfl := Option.some.inj hr
    exact k1 _ _ hk
  · have hr := ifp hr hc
    refine r_aload_n dX12_judgesAll_290 rfl 0 rfl (nl rfl) ?_
    refine r_iload_n dX12_judgesAll_291 rfl 3 rfl (Or.inl rfl) ?_
    refine r_aload_n dX12_judgesAll_292 rfl 0 rfl (nl rfl) ?_
    refine r_get 12 6 (o := a0) (w := (50, h a0 6)) (T := TX12) (ref := "FollowingRefsModel") rfl (by decide) rfl (by decide) inlX12 (wsl_7 _ (List.mem_of_getElem? (i := 8) rfl)) rfl dX12_judgesAll_293 rfl ?_
    refine r_bipush dX12_judgesAll_296 (by decide) (by decide) ?_
    refine r_iload_n dX12_judgesAll_298 rfl 2 rfl (Or.inl rfl) ?_
    refine r_iadd dX12_judgesAll_299 ?_
    obtain ⟨v300, hg300, hr⟩ := bnd hr
    refine r_iald dX12_judgesAll_300 hg300 ?_
    obtain ⟨r301, hg301, hr⟩ := bnd hr
    refine k_V (ci := 12) (o := a0) (T := TX12) (as := [(0, l3), (0, v300)]) (rest := []) (X := (some (2, r301), h)) (oX12_isRowOf hg301) gX12_isRowOf rfl (by decide) rfl (wsl_43 _ (List.mem_of_getElem? (i := 9) rfl)) rfl dX12_judgesAll_301 rfl ?_
    refine r_scast 0 (v := (2, r301)) (w := (0, r301)) rfl zc hTz (st' := [(0, r301)]) rfl ?_
    refine r_if_eq dX12_judgesAll_304 (tgt := 323) (by decide) (fun hc => ?_) (fun hc => ?_)
    · have hr := ifp hr hc
      refine r_iinc (k := 3) (v := l3) dX12_judgesAll_323 rfl (by decide) (lv' := [(3, (0, w32 (l3 + 1))), (0, (22, a0)), (1, (2, a1)), (2, (0, l2))]) rfl ?_
      refine r_goto dX12_judgesAll_326 (tgt := 284) (by decide) ?_
      refine r_sub [1, 2, 3, 0] (lv' := [(0, (22, a0)), (1, (2, a1)), (2, (0, l2)), (3, (0, w32 (l3 + 1)))]) rfl ?_
      obtain rfl := Option.some.inj hr
      exact k2 _ _ hk
    · have hr := ifn hr hc
      refine r_aload_n dX12_judgesAll_307 rfl 0 rfl (nl rfl) ?_
      refine r_iload_n dX12_judgesAll_308 rfl 3 rfl (Or.inl rfl) ?_
      refine r_iload_n dX12_judgesAll_309 rfl 2 rfl (Or.inl rfl) ?_
      obtain ⟨r310, hg310, hr⟩ := bnd hr
      refine k_V (ci := 12) (o := a0) (T := TX12) (as := [(0, l3), (0, l2)]) (rest := []) (X := (some (2, r310), h)) (oX12_isBadCheck hg310) gX12_isBadCheck rfl (by decide) rfl (wsl_46 _ (List.mem_of_getElem? (i := 4) rfl)) rfl dX12_judgesAll_310 rfl ?_
      refine r_scast 0 (v := (2, r310)) (w := (0, r310)) rfl zc hTz (st' := [(0, r310)]) rfl ?_
      refine r_if_eq dX12_judgesAll_313 (tgt := 323) (by decide) (fun hc => ?_) (fun hc => ?_)
      · have hr := ifp hr hc
        refine r_iinc (k := 3) (v := l3) dX12_judgesAll_323 rfl (by decide) (lv' := [(3, (0, w32 (l3 + 1))), (0, (22, a0)), (1, (2, a1)), (2, (0, l2))]) rfl ?_
        refine r_goto dX12_judgesAll_326 (tgt := 284) (by decide) ?_
        refine r_sub [1, 2, 3, 0] (lv' := [(0, (22, a0)), (1, (2, a1)), (2, (0, l2)), (3, (0, w32 (l3 + 1)))]) rfl ?_
        obtain rfl := Option.some.inj hr
        exact k2 _ _ hk
      · have hr := ifn hr hc
        refine r_aload_n dX12_judgesAll_316 rfl 0 rfl (nl rfl) ?_
        refine r_iconst dX12_judgesAll_317 (by decide) ?_
        refine r_iload_n dX12_judgesAll_318 rfl 2 rfl (Or.inl rfl) ?_
        refine r_iload_n dX12_judgesAll_319 rfl 3 rfl (Or.inl rfl) ?_
        obtain ⟨h320, hg320, hr⟩ := bnd hr
        refine k_V (ci := 12) (o := a0) (T := TX12) (as := [(0, 4), (0, l2), (0, l3)]) (rest := []) (X := (none, h320)) (oX12_violates hg320) gX12_violates rfl (by decide) rfl (wsl_45 _ (List.mem_of_getElem? (i := 16) rfl)) rfl dX12_judgesAll_320 rfl ?_
        refine r_iinc (k := 3) (v := l3) dX12_judgesAll_323 rfl (by decide) (lv' := [(3, (0, w32 (l3 + 1))), (0, (22, a0)), (1, (2, a1)), (2, (0, l2))]) rfl ?_
        refine r_goto dX12_judgesAll_326 (tgt := 284) (by decide) ?_
        refine r_sub [1, 2, 3, 0] (lv' := [(0, (22, a0)), (1, (2, a1)), (2, (0, l2)), (3, (0, w32 (l3 + 1)))]) rfl ?_
        obtain rfl := Option.some.inj hr
        exact k2 _ _ hk
set_option maxRecDepth 100000 in
set_option maxHeartbeats 4000000 in
theorem oX12_judgesAll_b282 {a0 a1 l2 : Int} {K : (hH × Int) ⊕ (hH) → Prop} (k0 : ∀ r, K (.inr (r)) → x = (none, r)) (k1 : ∀ (h : hH) (l2 : Int), K (.inl (h, l2)) → Wq p l e R s m args below meth c D G A H0 true n0 M_X12_judgesAll x 0 0 251 [(0, (22, a0)), (1, (2, a1)), (2, (0, l2))] [] h) {r : (hH × Int) ⊕ (hH)} (hr : fX12_judgesAll_b282 h a0 a1 l2 = some r) (hk : K r) : Wq p l e R s m args below meth c D G A H0 true n0 M_X12_judgesAll x 0 0 282 [(0, (22, a0)), (1, (2, a1)), (2, (0, l2))] [] h := by
  unfold fX12_judgesAll_b282 at hr
  refine r_iconst dX12_judgesAll_282 (by decide) ?_
  refine r_istore_n dX12_judgesAll_283 rfl (Or.inl rfl) (by decide) (lv' := [(3, (0, 0)), (0, (22, a0)), (1, (2, a1)), (2, (0, l2))]) rfl ?_
  refine r_sub [1, 2, 3, 0] (lv' := [(0, (22, a0)), (1, (2, a1)), (2, (0, l2)), (3, (0, 0))]) rfl ?_
  exact lp_ok (w := fun (q : hH × Int) => Wq p l e R s m args below meth c D G A H0 true n0 M_X12_judgesAll x 0 0 284 [(0, (22, a0)), (1, (2, a1)), (2, (0, l2)), (3, (0, q.2))] [] (q.1)) (K := K) (fun ⟨q0, q1⟩ r h1 h2 => oX12_judgesAll_s284 (K := Sum.elim (fun (q : hH × Int) => Wq p l e R s m args below meth c D G A H0 true n0 M_X12_judgesAll x 0 0 284 [(0, (22, a0)), (1, (2, a1)), (2, (0, l2)), (3, (0, q.2))] [] (q.1)) (K)) (fun r z => k0 r z) (fun _ _ z => k1 _ _ z) (fun _ _ z => z) h1 h2) hr hk
set_option maxRecDepth 100000 in
set_option maxHeartbeats 4000000 in
theorem oX12_judgesAll_s251 {h0 : hH} {a0 a1 l2 : Int} {K : (hH × Int) ⊕ (hH) → Prop} (k0 : ∀ r, K (.inr (r)) → x = (none, r)) (k1 : ∀ (h : hH) (l2 : Int), K (.inl (h, l2)) → Wq p l e R s m args below meth c D G A H0 true n0 M_X12_judgesAll x 0 0 251 [(0, (22, a0)), (1, (2, a1)), (2, (0, l2))] [] h) {r : (hH × Int) ⊕ (hH)} (hr : fX12_judgesAll_s251 h0 a0 a1 (h, l2) = some r) (hk : K r) : Wq p l e R s m args below meth c D G A H0 true n0 M_X12_judgesAll x 0 0 251 [(0, (22, a0)), (1, (2, a1)), (2, (0, l2))] [] h := by
  unfold fX12_judgesAll_s251 at hr
  refine r_iload_n dX12_judgesAll_251 rfl 2 rfl (Or.inl rfl) ?_
  refine r_aload_n dX12_judgesAll_252 rfl 0 rfl (nl rfl) ?_
  refine r_get 12 6 (o := a0) (w := (50, h a0 6)) (T := TX12) (ref := "FollowingRefsModel") rfl (by decide) rfl (by decide) inlX12 (wsl_7 _ (List.mem_of_getElem? (i := 8) rfl)) rfl dX12_judgesAll_253 rfl ?_
  refine r_iconst dX12_judgesAll_256 (by decide) ?_
  obtain ⟨v257, hg257, hr⟩ := bnd hr
  refine r_iald dX12_judgesAll_257 hg257 ?_
  refine r_icmp_ge dX12_judgesAll_258 (tgt := 335) (by decide) (fun hc => ?_) (fun hc => ?_)
  · have hr := ifn hr hc
    obtain rfl := Option.some.inj hr
    exact r_vret dX12_judgesAll_335 rfl (k0 _ hk) ⟨rfl, rfl⟩
  · have hr := ifp hr hc
    refine r_iload_n dX12_judgesAll_261 rfl 1 rfl (Or.inr rfl) ?_
    refine r_scast 0 (v := (2, a1)) (w := (0, a1)) rfl zc hTz (st' := [(0, a1)]) rfl ?_
    refine r_if_ne dX12_judgesAll_262 (tgt := 282) (by decide) (fun hc => ?_) (fun hc => ?_)
    · have hr := ifn hr hc
      exact oX12_judgesAll_b282 (K := K) (fun r z => k0 r z) (fun _ _ z => k1 _ _ z) hr hk
    · have hr := ifp hr hc
      refine r_aload_n dX12_judgesAll_265 rfl 0 rfl (nl rfl) ?_
      refine r_get 12 6 (o := a0) (w := (50, h a0 6)) (T := TX12) (ref := "FollowingRefsModel") rfl (by decide) rfl (by decide) inlX12 (wsl_7 _ (List.mem_of_getElem? (i := 8) rfl)) rfl dX12_judgesAll_266 rfl ?_
      refine r_sipush dX12_judgesAll_269 (by decide) (by decide) ?_
      refine r_iload_n dX12_judgesAll_272 rfl 2 rfl (Or.inl rfl) ?_
      refine r_iadd dX12_judgesAll_273 ?_
      obtain ⟨v274, hg274, hr⟩ := bnd hr
      refine r_iald dX12_judgesAll_274 hg274 ?_
      refine r_iconst dX12_judgesAll_275 (by decide) ?_
      refine r_icmp_ne dX12_judgesAll_276 (tgt := 282) (by decide) (fun hc => ?_) (fun hc => ?_)
      · have hr := ifn hr hc
        exact oX12_judgesAll_b282 (K := K) (fun r z => k0 r z) (fun _ _ z => k1 _ _ z) hr hk
      · have hr := ifp hr hc
        refine r_goto dX12_judgesAll_279 (tgt := 329) (by decide) ?_
        refine r_iinc (k := 2) (v := l2) dX12_judgesAll_329 rfl (by decide) (lv' := [(2, (0, w32 (l2 + 1))), (0, (22, a0)), (1, (2, a1))]) rfl ?_
        refine r_goto dX12_judgesAll_332 (tgt := 251) (by decide) ?_
        refine r_sub [1, 2, 0] (lv' := [(0, (22, a0)), (1, (2, a1)), (2, (0, w32 (l2 + 1)))]) rfl ?_
        obtain rfl := Option.some.inj hr
        exact k1 _ _ hk
set_option maxRecDepth 100000 in
set_option maxHeartbeats 4000000 in
theorem oX12_judgesAll_s166 {h0 : hH} {a0 a1 l2 : Int} {K : (hH × Int) ⊕ (hH) → Prop} (k0 : ∀ r, K (.inr (r)) → x = (none, r)) (k1 : ∀ (h : hH) (l2 : Int), K (.inl (h, l2)) → Wq p l e R s m args below meth c D G A H0 true n0 M_X12_judgesAll x 0 0 166 [(0, (22, a0)), (1, (2, a1)), (2, (0, l2))] [] h) {r : (hH × Int) ⊕ (hH)} (hr : fX12_judgesAll_s166 h0 a0 a1 (h, l2) = some r) (hk : K r) : Wq p l e R s m args below meth c D G A H0 true n0 M_X12_judgesAll x 0 0 166 [(0, (22, a0)), (1, (2, a1)), (2, (0, l2))] [] h := by
  unfold fX12_judgesAll_s166 at hr
  refine r_iload_n dX12_judgesAll_166 rfl 2 rfl (Or.inl rfl) ?_
  refine r_aload_n dX12_judgesAll_167 rfl 0 rfl (nl rfl) ?_
  refine r_get 12 6 (o := a0) (w := (50, h a0 6)) (T := TX12) (ref := "FollowingRefsModel") rfl (by decide) rfl (by decide) inlX12 (wsl_7 _ (List.mem_of_getElem? (i := 8) rfl)) rfl dX12_judgesAll_168 rfl ?_
  refine r_iconst dX12_judgesAll_171 (by decide) ?_
  obtain ⟨v172, hg172, hr⟩ := bnd hr
  refine r_iald dX12_judgesAll_172 hg172 ?_
  refine r_icmp_ge dX12_judgesAll_173 (tgt := 249) (by decide) (fun hc => ?_) (fun hc => ?_)
  · have hr := ifn hr hc
    refine r_iconst dX12_judgesAll_249 (by decide) ?_
    refine r_istore_n dX12_judgesAll_250 rfl (Or.inl rfl) (by decide) (lv' := [(2, (0, 0)), (0, (22, a0)), (1, (2, a1))]) rfl ?_
    refine r_sub [1, 2, 0] (lv' := [(0, (22, a0)), (1, (2, a1)), (2, (0, 0))]) rfl ?_
    obtain ⟨r9, hr9, rfl⟩ := mpp hr
    exact lp_ok (w := fun (q : hH × Int) => Wq p l e R s m args below meth c D G A H0 true n0 M_X12_judgesAll x 0 0 251 [(0, (22, a0)), (1, (2, a1)), (2, (0, q.2))] [] (q.1)) (K := fun z9 => K (.inr (z9))) (fun ⟨q0, q1⟩ r h1 h2 => oX12_judgesAll_s251 (K := Sum.elim (fun (q : hH × Int) => Wq p l e R s m args below meth c D G A H0 true n0 M_X12_judgesAll x 0 0 251 [(0, (22, a0)), (1, (2, a1)), (2, (0, q.2))] [] (q.1)) (fun z9 => K (.inr (z9)))) (fun r z => k0 r z) (fun _ _ z => z) h1 h2) hr9 hk
  · have hr := ifp hr hc
    refine r_iload_n dX12_judgesAll_176 rfl 1 rfl (Or.inr rfl) ?_
    refine r_scast 0 (v := (2, a1)) (w := (0, a1)) rfl zc hTz (st' := [(0, a1)]) rfl ?_
    refine r_if_ne dX12_judgesAll_177 (tgt := 196) (by decide) (fun hc => ?_) (fun hc => ?_)
    · have hr := ifn hr hc
      exact oX12_judgesAll_b196 (K := K) (fun r z => k0 r z) (fun _ _ z => k1 _ _ z) hr hk
    · have hr := ifp hr hc
      refine r_aload_n dX12_judgesAll_180 rfl 0 rfl (nl rfl) ?_
      refine r_get 12 6 (o := a0) (w := (50, h a0 6)) (T := TX12) (ref := "FollowingRefsModel") rfl (by decide) rfl (by decide) inlX12 (wsl_7 _ (List.mem_of_getElem? (i := 8) rfl)) rfl dX12_judgesAll_181 rfl ?_
      refine r_bipush dX12_judgesAll_184 (by decide) (by decide) ?_
      refine r_iload_n dX12_judgesAll_186 rfl 2 rfl (Or.inl rfl) ?_
      refine r_iadd dX12_judgesAll_187 ?_
      obtain ⟨v188, hg188, hr⟩ := bnd hr
      refine r_iald dX12_judgesAll_188 hg188 ?_
      refine r_iconst dX12_judgesAll_189 (by decide) ?_
      refine r_icmp_ne dX12_judgesAll_190 (tgt := 196) (by decide) (fun hc => ?_) (fun hc => ?_)
      · have hr := ifn hr hc
        exact oX12_judgesAll_b196 (K := K) (fun r z => k0 r z) (fun _ _ z => k1 _ _ z) hr hk
      · have hr := ifp hr hc
        refine r_goto dX12_judgesAll_193 (tgt := 243) (by decide) ?_
        refine r_iinc (k := 2) (v := l2) dX12_judgesAll_243 rfl (by decide) (lv' := [(2, (0, w32 (l2 + 1))), (0, (22, a0)), (1, (2, a1))]) rfl ?_
        refine r_goto dX12_judgesAll_246 (tgt := 166) (by decide) ?_
        refine r_sub [1, 2, 0] (lv' := [(0, (22, a0)), (1, (2, a1)), (2, (0, w32 (l2 + 1)))]) rfl ?_
        obtain rfl := Option.some.inj hr
        exact k1 _ _ hk
set_option maxRecDepth 100000 in
set_option maxHeartbeats 4000000 in
theorem oX12_judgesAll_s101 {h0 : hH} {a0 a1 l2 : Int} {K : (hH × Int) ⊕ (hH) → Prop} (k0 : ∀ r, K (.inr (r)) → x = (none, r)) (k1 : ∀ (h : hH) (l2 : Int), K (.inl (h, l2)) → Wq p l e R s m args below meth c D G A H0 true n0 M_X12_judgesAll x 0 0 101 [(0, (22, a0)), (1, (2, a1)), (2, (0, l2))] [] h) {r : (hH × Int) ⊕ (hH)} (hr : fX12_judgesAll_s101 h0 a0 a1 (h, l2) = some r) (hk : K r) : Wq p l e R s m args below meth c D G A H0 true n0 M_X12_judgesAll x 0 0 101 [(0, (22, a0)), (1, (2, a1)), (2, (0, l2))] [] h := by
  unfold fX12_judgesAll_s101 at hr
  refine r_iload_n dX12_judgesAll_101 rfl 2 rfl (Or.inl rfl) ?_
  refine r_aload_n dX12_judgesAll_102 rfl 0 rfl (nl rfl) ?_
  refine r_get 12 6 (o := a0) (w := (50, h a0 6)) (T := TX12) (ref := "FollowingRefsModel") rfl (by decide) rfl (by decide) inlX12 (wsl_7 _ (List.mem_of_getElem? (i := 8) rfl)) rfl dX12_judgesAll_103 rfl ?_
  refine r_iconst dX12_judgesAll_106 (by decide) ?_
  obtain ⟨v107, hg107, hr⟩ := bnd hr
  refine r_iald dX12_judgesAll_107 hg107 ?_
  refine r_icmp_ge dX12_judgesAll_108 (tgt := 164) (by decide) (fun hc => ?_) (fun hc => ?_)
  · have hr := ifn hr hc
    refine r_iconst dX12_judgesAll_164 (by decide) ?_
    refine r_istore_n dX12_judgesAll_165 rfl (Or.inl rfl) (by decide) (lv' := [(2, (0, 0)), (0, (22, a0)), (1, (2, a1))]) rfl ?_
    refine r_sub [1, 2, 0] (lv' := [(0, (22, a0)), (1, (2, a1)), (2, (0, 0))]) rfl ?_
    obtain ⟨r9, hr9, rfl⟩ := mpp hr
    exact lp_ok (w := fun (q : hH × Int) => Wq p l e R s m args below meth c D G A H0 true n0 M_X12_judgesAll x 0 0 166 [(0, (22, a0)), (1, (2, a1)), (2, (0, q.2))] [] (q.1)) (K := fun z9 => K (.inr (z9))) (fun ⟨q0, q1⟩ r h1 h2 => oX12_judgesAll_s166 (K := Sum.elim (fun (q : hH × Int) => Wq p l e R s m args below meth c D G A H0 true n0 M_X12_judgesAll x 0 0 166 [(0, (22, a0)), (1, (2, a1)), (2, (0, q.2))] [] (q.1)) (fun z9 => K (.inr (z9)))) (fun r z => k0 r z) (fun _ _ z => z) h1 h2) hr9 hk
  · have hr := ifp hr hc
    refine r_iconst dX12_judgesAll_111 (by decide) ?_
    refine r_istore_n dX12_judgesAll_112 rfl (Or.inl rfl) (by decide) (lv' := [(3, (0, 0)), (0, (22, a0)), (1, (2, a1)), (2, (0, l2))]) rfl ?_
    refine r_sub [1, 2, 3, 0] (lv' := [(0, (22, a0)), (1, (2, a1)), (2, (0, l2)), (3, (0, 0))]) rfl ?_
    exact lp_ok (w := fun (q : hH × Int) => Wq p l e R s m args below meth c D G A H0 true n0 M_X12_judgesAll x 0 0 113 [(0, (22, a0)), (1, (2, a1)), (2, (0, l2)), (3, (0, q.2))] [] (q.1)) (K := K) (fun ⟨q0, q1⟩ r h1 h2 => oX12_judgesAll_s113 (K := Sum.elim (fun (q : hH × Int) => Wq p l e R s m args below meth c D G A H0 true n0 M_X12_judgesAll x 0 0 113 [(0, (22, a0)), (1, (2, a1)), (2, (0, l2)), (3, (0, q.2))] [] (q.1)) (K)) (fun r z => k0 r z) (fun _ _ z => k1 _ _ z) (fun _ _ z => z) h1 h2) hr hk
set_option maxRecDepth 100000 in
set_option maxHeartbeats 4000000 in
theorem oX12_judgesAll_s7 {h0 : hH} {a0 a1 l2 : Int} {K : (hH × Int) ⊕ (hH) → Prop} (k0 : ∀ r, K (.inr (r)) → x = (none, r)) (k1 : ∀ (h : hH) (l2 : Int), K (.inl (h, l2)) → Wq p l e R s m args below meth c D G A H0 true n0 M_X12_judgesAll x 0 0 7 [(0, (22, a0)), (1, (2, a1)), (2, (0, l2))] [] h) {r : (hH × Int) ⊕ (hH)} (hr : fX12_judgesAll_s7 h0 a0 a1 (h, l2) = some r) (hk : K r) : Wq p l e R s m args below meth c D G A H0 true n0 M_X12_judgesAll x 0 0 7 [(0, (22, a0)), (1, (2, a1)), (2, (0, l2))] [] h := by
  unfold fX12_judgesAll_s7 at hr
  refine r_iload_n dX12_judgesAll_7 rfl 2 rfl (Or.inl rfl) ?_
  refine r_aload_n dX12_judgesAll_8 rfl 0 rfl (nl rfl) ?_
  refine r_get 12 6 (o := a0) (w := (50, h a0 6)) (T := TX12) (ref := "FollowingRefsModel") rfl (by decide) rfl (by decide) inlX12 (wsl_7 _ (List.mem_of_getElem? (i := 8) rfl)) rfl dX12_judgesAll_9 rfl ?_
  refine r_iconst dX12_judgesAll_12 (by decide) ?_
  obtain ⟨v13, hg13, hr⟩ := bnd hr
  refine r_iald dX12_judgesAll_13 hg13 ?_
  refine r_icmp_ge dX12_judgesAll_14 (tgt := 99) (by decide) (fun hc => ?_) (fun hc => ?_)
  · have hr := ifn hr hc
    refine r_iconst dX12_judgesAll_99 (by decide) ?_
    refine r_istore_n dX12_judgesAll_100 rfl (Or.inl rfl) (by decide) (lv' := [(2, (0, 0)), (0, (22, a0)), (1, (2, a1))]) rfl ?_
    refine r_sub [1, 2, 0] (lv' := [(0, (22, a0)), (1, (2, a1)), (2, (0, 0))]) rfl ?_
    obtain ⟨r9, hr9, rfl⟩ := mpp hr
    exact lp_ok (w := fun (q : hH × Int) => Wq p l e R s m args below meth c D G A H0 true n0 M_X12_judgesAll x 0 0 101 [(0, (22, a0)), (1, (2, a1)), (2, (0, q.2))] [] (q.1)) (K := fun z9 => K (.inr (z9))) (fun ⟨q0, q1⟩ r h1 h2 => oX12_judgesAll_s101 (K := Sum.elim (fun (q : hH × Int) => Wq p l e R s m args below meth c D G A H0 true n0 M_X12_judgesAll x 0 0 101 [(0, (22, a0)), (1, (2, a1)), (2, (0, q.2))] [] (q.1)) (fun z9 => K (.inr (z9)))) (fun r z => k0 r z) (fun _ _ z => z) h1 h2) hr9 hk
  · have hr := ifp hr hc
    refine r_iconst dX12_judgesAll_17 (by decide) ?_
    refine r_istore_n dX12_judgesAll_18 rfl (Or.inl rfl) (by decide) (lv' := [(3, (0, 0)), (0, (22, a0)), (1, (2, a1)), (2, (0, l2))]) rfl ?_
    refine r_sub [1, 2, 3, 0] (lv' := [(0, (22, a0)), (1, (2, a1)), (2, (0, l2)), (3, (0, 0))]) rfl ?_
    exact lp_ok (w := fun (q : hH × Int) => Wq p l e R s m args below meth c D G A H0 true n0 M_X12_judgesAll x 0 0 19 [(0, (22, a0)), (1, (2, a1)), (2, (0, l2)), (3, (0, q.2))] [] (q.1)) (K := K) (fun ⟨q0, q1⟩ r h1 h2 => oX12_judgesAll_s19 (K := Sum.elim (fun (q : hH × Int) => Wq p l e R s m args below meth c D G A H0 true n0 M_X12_judgesAll x 0 0 19 [(0, (22, a0)), (1, (2, a1)), (2, (0, l2)), (3, (0, q.2))] [] (q.1)) (K)) (fun r z => k0 r z) (fun _ _ z => k1 _ _ z) (fun _ _ z => z) h1 h2) hr hk
set_option maxRecDepth 100000 in
set_option maxHeartbeats 4000000 in
theorem oX12_judgesAll_b0 {a0 a1 : Int} {K : hH → Prop} (k0 : ∀ r, K (r) → x = (none, r)) {r : hH} (hr : fX12_judgesAll h a0 a1 = some r) (hk : K r) : Wq p l e R s m args below meth c D G A H0 true n0 M_X12_judgesAll x 0 0 0 [(0, (22, a0)), (1, (2, a1))] [] h := by
  unfold fX12_judgesAll at hr
  refine r_aload_n dX12_judgesAll_0 rfl 0 rfl (nl rfl) ?_
  refine r_iconst dX12_judgesAll_1 (by decide) ?_
  obtain ⟨h2, hg2, hr⟩ := bnd hr
  refine r_put' 12 26 (t := 0) (ref := "FollowingRefsModel") hg2 rfl tyX12 tyX12_ok nmX12 rfl (by decide) rfl (by decide) inlX12 (wsl_42 _ (List.mem_of_getElem? (i := 7) rfl)) rfl rfl (by decide +kernel) (by decide) rfl (Or.inl ⟨rfl, rfl⟩) dX12_judgesAll_2 ?_
  refine r_iconst dX12_judgesAll_5 (by decide) ?_
  refine r_istore_n dX12_judgesAll_6 rfl (Or.inl rfl) (by decide) (lv' := [(2, (0, 0)), (0, (22, a0)), (1, (2, a1))]) rfl ?_
  refine r_sub [1, 2, 0] (lv' := [(0, (22, a0)), (1, (2, a1)), (2, (0, 0))]) rfl ?_
  exact lp_ok (w := fun (q : hH × Int) => Wq p l e R s m args below meth c D G A H0 true n0 M_X12_judgesAll x 0 0 7 [(0, (22, a0)), (1, (2, a1)), (2, (0, q.2))] [] (q.1)) (K := K) (fun ⟨q0, q1⟩ r h1 h2 => oX12_judgesAll_s7 (K := Sum.elim (fun (q : hH × Int) => Wq p l e R s m args below meth c D G A H0 true n0 M_X12_judgesAll x 0 0 7 [(0, (22, a0)), (1, (2, a1)), (2, (0, q.2))] [] (q.1)) (K)) (fun r z => k0 r z) (fun _ _ z => z) h1 h2) hr hk
end M_X12_judgesAll
theorem oX12_judgesAll {l : Launch} {D : va_G} {G : gG} {h : hH} {a0 a1 : Int} {r : hH} (hr : fX12_judgesAll h a0 a1 = some r) : Ctr l D G true yX12_judgesAll M_X12_judgesAll [(22, a0), (2, a1)] h (none, r) :=
  Ctr_of (by decide) rfl (fun z => by cases z) (nl rfl) (fun {p e R s m args below meth c A H0} => by
    exact oX12_judgesAll_b0 (K := fun z9 => z9 = r) (fun r9 z => by rw [z]) hr rfl)
/-! X12_takesValue -/
theorem dX12_takesValue_0 : decode cX12_takesValue 0 = .ok (.aload_n 0, 1) := by decide +kernel
theorem dX12_takesValue_1 : decode cX12_takesValue 1 = .ok (.ldc2_w 171, 3) := by decide +kernel
theorem dX12_takesValue_4 : decode cX12_takesValue 4 = .ok (.invokevirtual 248, 3) := by decide +kernel
theorem dX12_takesValue_7 : decode cX12_takesValue 7 = .ok (.ifCond .eq 16, 3) := by decide +kernel
theorem dX12_takesValue_10 : decode cX12_takesValue 10 = .ok (.aload_n 0, 1) := by decide +kernel
theorem dX12_takesValue_11 : decode cX12_takesValue 11 = .ok (.getfield 43, 3) := by decide +kernel
theorem dX12_takesValue_14 : decode cX12_takesValue 14 = .ok (.iload_n 1, 1) := by decide +kernel
theorem dX12_takesValue_15 : decode cX12_takesValue 15 = .ok (.iconst (-1), 1) := by decide +kernel
theorem dX12_takesValue_16 : decode cX12_takesValue 16 = .ok (.iastore, 1) := by decide +kernel
theorem dX12_takesValue_17 : decode cX12_takesValue 17 = .ok (.aload_n 0, 1) := by decide +kernel
theorem dX12_takesValue_18 : decode cX12_takesValue 18 = .ok (.invokevirtual 226, 3) := by decide +kernel
theorem dX12_takesValue_21 : decode cX12_takesValue 21 = .ok (.iconst 1, 1) := by decide +kernel
theorem dX12_takesValue_22 : decode cX12_takesValue 22 = .ok (.ireturn, 1) := by decide +kernel
theorem dX12_takesValue_23 : decode cX12_takesValue 23 = .ok (.aload_n 0, 1) := by decide +kernel
theorem dX12_takesValue_24 : decode cX12_takesValue 24 = .ok (.iconst 0, 1) := by decide +kernel
theorem dX12_takesValue_25 : decode cX12_takesValue 25 = .ok (.bipush 99, 2) := by decide +kernel
theorem dX12_takesValue_27 : decode cX12_takesValue 27 = .ok (.invokevirtual 299, 3) := by decide +kernel
theorem dX12_takesValue_30 : decode cX12_takesValue 30 = .ok (.ifCond .ne 5, 3) := by decide +kernel
theorem dX12_takesValue_33 : decode cX12_takesValue 33 = .ok (.iconst 0, 1) := by decide +kernel
theorem dX12_takesValue_34 : decode cX12_takesValue 34 = .ok (.ireturn, 1) := by decide +kernel
theorem dX12_takesValue_35 : decode cX12_takesValue 35 = .ok (.aload_n 0, 1) := by decide +kernel
theorem dX12_takesValue_36 : decode cX12_takesValue 36 = .ok (.getfield 43, 3) := by decide +kernel
theorem dX12_takesValue_39 : decode cX12_takesValue 39 = .ok (.iload_n 1, 1) := by decide +kernel
theorem dX12_takesValue_40 : decode cX12_takesValue 40 = .ok (.aload_n 0, 1) := by decide +kernel
theorem dX12_takesValue_41 : decode cX12_takesValue 41 = .ok (.getfield 233, 3) := by decide +kernel
theorem dX12_takesValue_44 : decode cX12_takesValue 44 = .ok (.iastore, 1) := by decide +kernel
theorem dX12_takesValue_45 : decode cX12_takesValue 45 = .ok (.iconst 1, 1) := by decide +kernel
theorem dX12_takesValue_46 : decode cX12_takesValue 46 = .ok (.ireturn, 1) := by decide +kernel
abbrev M_X12_takesValue : mM := (cX12_takesValue, 2, RX12, some .boolean, false, 3, 65, 0, 0)
theorem gX12_takesValue : cI yX12_takesValue M_X12_takesValue 1 := ⟨(wsl_41 _ (List.mem_of_getElem? (i := 4) rfl)), (wsl_41 _ (List.mem_of_getElem? (i := 5) rfl)), (wsl_1 _ (List.mem_of_getElem? (i := 5) rfl)), (wsl_41 _ (List.mem_of_getElem? (i := 6) rfl)), by decide +kernel⟩
noncomputable def fX12_takesValue (h : hH) (a0 a1 : Int) : Option (Int × hH) :=
  (fX12_isWord h a0 1852796517).bind fun r4 =>
  if r4 = 0 then
    (fX12_takes h a0 0 99).bind fun q27 =>
    if q27.1 = 0 then
      some (0, q27.2)
    else
      (aput q27.2 (q27.2 a0 9) a1 (q27.2 a0 19)).bind fun h44 =>
      some (1, h44)
  else
    (aput h (h a0 9) a1 (-1)).bind fun h16 =>
    (fX12_next h16 a0).bind fun h18 =>
    some (1, h18)
section M_X12_takesValue
variable {p : Program} {l : Launch} {e : Env} {R : Room} {s : State} {m : MethodId} {args : Array Value} {below : List Frame} {meth : Method} {c : Code} {D : va_G} {G : gG} {A : Nat → Prop} {H0 : Heap} {n0 : Int} {x : Option vV × hH} {h : hH}
set_option maxRecDepth 100000 in
set_option maxHeartbeats 4000000 in
theorem oX12_takesValue_b0 {a0 a1 : Int} {K : Int × hH → Prop} (k0 : ∀ r, K (r) → x = (some (2, r.1), r.2)) {r : Int × hH} (hr : fX12_takesValue h a0 a1 = some r) (hk : K r) : Wq p l e R s m args below meth c D G A H0 true n0 M_X12_takesValue x 0 0 0 [(0, (22, a0)), (1, (0, a1))] [] h := by
  unfold fX12_takesValue at hr
  refine r_aload_n dX12_takesValue_0 rfl 0 rfl (nl rfl) ?_
  refine r_ldc2' (v := 1852796517) dX12_takesValue_1 (by decide) (wsl_9 _ (List.mem_of_getElem? (i := 13) rfl)) ?_
  obtain ⟨r4, hg4, hr⟩ := bnd hr
  refine k_V (ci := 12) (o := a0) (T := TX12) (as := [(1, 1852796517)]) (rest := []) (X := (some (2, r4), h)) (oX12_isWord hg4) gX12_isWord rfl (by decide) rfl (wsl_24 _ (List.mem_of_getElem? (i := 22) rfl)) rfl dX12_takesValue_4 rfl ?_
  refine r_scast 0 (v := (2, r4)) (w := (0, r4)) rfl zc hTz (st' := [(0, r4)]) rfl ?_
  refine r_if_eq dX12_takesValue_7 (tgt := 23) (by decide) (fun hc => ?_) (fun hc => ?_)
  · have hr := ifp hr hc
    refine r_aload_n dX12_takesValue_23 rfl 0 rfl (nl rfl) ?_
    refine r_iconst dX12_takesValue_24 (by decide) ?_
    refine r_bipush dX12_takesValue_25 (by decide) (by decide) ?_
    obtain ⟨q27, hg27, hr⟩ := bnd hr
    refine k_V (ci := 12) (o := a0) (T := TX12) (as := [(0, 0), (0, 99)]) (rest := []) (X := (some (2, q27.1), q27.2)) (oX12_takes hg27) gX12_takes rfl (by decide) rfl (wsl_27 _ (List.mem_of_getElem? (i := 21) rfl)) rfl dX12_takesValue_27 rfl ?_
    refine r_scast 0 (v := (2, q27.1)) (w := (0, q27.1)) rfl zc hTz (st' := [(0, q27.1)]) rfl ?_
    refine r_if_ne dX12_takesValue_30 (tgt := 35) (by decide) (fun hc => ?_) (fun hc => ?_)
    · have hr := ifn hr hc
      refine r_aload_n dX12_takesValue_35 rfl 0 rfl (nl rfl) ?_
      refine r_get 12 9 (o := a0) (w := (50, q27.2 a0 9)) (T := TX12) (ref := "FollowingRefsModel") rfl (by decide) rfl (by decide) inlX12 (wsl_7 _ (List.mem_of_getElem? (i := 11) rfl)) rfl dX12_takesValue_36 rfl ?_
      refine r_iload_n dX12_takesValue_39 rfl 1 rfl (Or.inl rfl) ?_
      refine r_aload_n dX12_takesValue_40 rfl 0 rfl (nl rfl) ?_
      refine r_get 12 19 (o := a0) (w := (0, q27.2 a0 19)) (T := TX12) (ref := "FollowingRefsModel") rfl (by decide) rfl (by decide) inlX12 (wsl_26 _ (List.mem_of_getElem? (i := 2) rfl)) rfl dX12_takesValue_41 rfl ?_
      obtain ⟨h44, hg44, hr⟩ := bnd hr
      refine r_iast dX12_takesValue_44 hg44 ?_
      refine r_iconst dX12_takesValue_45 (by decide) ?_
      refine r_scast 0 (v := (0, 1)) (w := (2, 1)) rfl cz (fun _ => Or.inr rfl) (st' := [(2, 1)]) rfl ?_
      obtain rfl := Option.some.inj hr
      exact r_ret dX12_takesValue_46 rfl (Or.inr ⟨rfl, rfl⟩) (k0 _ hk) ⟨rfl, rfl⟩
    · have hr := ifp hr hc
      refine r_iconst dX12_takesValue_33 (by decide) ?_
      refine r_scast 0 (v := (0, 0)) (w := (2, 0)) rfl cz (fun _ => Or.inl rfl) (st' := [(2, 0)]) rfl ?_
      obtain rfl := Option.some.inj hr
      exact r_ret dX12_takesValue_34 rfl (Or.inr ⟨rfl, rfl⟩) (k0 _ hk) ⟨rfl, rfl⟩
  · have hr := ifn hr hc
    refine r_aload_n dX12_takesValue_10 rfl 0 rfl (nl rfl) ?_
    refine r_get 12 9 (o := a0) (w := (50, h a0 9)) (T := TX12) (ref := "FollowingRefsModel") rfl (by decide) rfl (by decide) inlX12 (wsl_7 _ (List.mem_of_getElem? (i := 11) rfl)) rfl dX12_takesValue_11 rfl ?_
    refine r_iload_n dX12_takesValue_14 rfl 1 rfl (Or.inl rfl) ?_
    refine r_iconst dX12_takesValue_15 (by decide) ?_
    obtain ⟨h16, hg16, hr⟩ := bnd hr
    refine r_iast dX12_takesValue_16 hg16 ?_
    refine r_aload_n dX12_takesValue_17 rfl 0 rfl (nl rfl) ?_
    obtain ⟨h18, hg18, hr⟩ := bnd hr
    refine k_V (ci := 12) (o := a0) (T := TX12) (as := []) (rest := []) (X := (none, h18)) (oX12_next hg18) gX12_next rfl (by decide) rfl (wsl_24 _ (List.mem_of_getElem? (i := 0) rfl)) rfl dX12_takesValue_18 rfl ?_
    refine r_iconst dX12_takesValue_21 (by decide) ?_
    refine r_scast 0 (v := (0, 1)) (w := (2, 1)) rfl cz (fun _ => Or.inr rfl) (st' := [(2, 1)]) rfl ?_
    obtain rfl := Option.some.inj hr
    exact r_ret dX12_takesValue_22 rfl (Or.inr ⟨rfl, rfl⟩) (k0 _ hk) ⟨rfl, rfl⟩
end M_X12_takesValue
theorem oX12_takesValue {l : Launch} {D : va_G} {G : gG} {h : hH} {a0 a1 : Int} {r : Int × hH} (hr : fX12_takesValue h a0 a1 = some r) : Ctr l D G true yX12_takesValue M_X12_takesValue [(22, a0), (0, a1)] h (some (2, r.1), r.2) :=
  Ctr_of (by decide) rfl (fun z => by cases z) (nl rfl) (fun {p e R s m args below meth c A H0} => by
    exact oX12_takesValue_b0 (K := fun z9 => z9 = r) (fun r9 z => by rw [z]) hr rfl)
/-! X12_takesOwnTable -/
theorem dX12_takesOwnTable_0 : decode cX12_takesOwnTable 0 = .ok (.aload_n 0, 1) := by decide +kernel
theorem dX12_takesOwnTable_1 : decode cX12_takesOwnTable 1 = .ok (.iconst 0, 1) := by decide +kernel
theorem dX12_takesOwnTable_2 : decode cX12_takesOwnTable 2 = .ok (.aload_n 0, 1) := by decide +kernel
theorem dX12_takesOwnTable_3 : decode cX12_takesOwnTable 3 = .ok (.getfield 33, 3) := by decide +kernel
theorem dX12_takesOwnTable_6 : decode cX12_takesOwnTable 6 = .ok (.iconst 0, 1) := by decide +kernel
theorem dX12_takesOwnTable_7 : decode cX12_takesOwnTable 7 = .ok (.iaload, 1) := by decide +kernel
theorem dX12_takesOwnTable_8 : decode cX12_takesOwnTable 8 = .ok (.invokevirtual 270, 3) := by decide +kernel
theorem dX12_takesOwnTable_11 : decode cX12_takesOwnTable 11 = .ok (.ifCond .ne 5, 3) := by decide +kernel
theorem dX12_takesOwnTable_14 : decode cX12_takesOwnTable 14 = .ok (.iconst 0, 1) := by decide +kernel
theorem dX12_takesOwnTable_15 : decode cX12_takesOwnTable 15 = .ok (.ireturn, 1) := by decide +kernel
theorem dX12_takesOwnTable_16 : decode cX12_takesOwnTable 16 = .ok (.aload_n 0, 1) := by decide +kernel
theorem dX12_takesOwnTable_17 : decode cX12_takesOwnTable 17 = .ok (.getfield 43, 3) := by decide +kernel
theorem dX12_takesOwnTable_20 : decode cX12_takesOwnTable 20 = .ok (.iload_n 1, 1) := by decide +kernel
theorem dX12_takesOwnTable_21 : decode cX12_takesOwnTable 21 = .ok (.iconst 1, 1) := by decide +kernel
theorem dX12_takesOwnTable_22 : decode cX12_takesOwnTable 22 = .ok (.iadd, 1) := by decide +kernel
theorem dX12_takesOwnTable_23 : decode cX12_takesOwnTable 23 = .ok (.aload_n 0, 1) := by decide +kernel
theorem dX12_takesOwnTable_24 : decode cX12_takesOwnTable 24 = .ok (.getfield 233, 3) := by decide +kernel
theorem dX12_takesOwnTable_27 : decode cX12_takesOwnTable 27 = .ok (.iastore, 1) := by decide +kernel
theorem dX12_takesOwnTable_28 : decode cX12_takesOwnTable 28 = .ok (.aload_n 0, 1) := by decide +kernel
theorem dX12_takesOwnTable_29 : decode cX12_takesOwnTable 29 = .ok (.getfield 43, 3) := by decide +kernel
theorem dX12_takesOwnTable_32 : decode cX12_takesOwnTable 32 = .ok (.iload_n 1, 1) := by decide +kernel
theorem dX12_takesOwnTable_33 : decode cX12_takesOwnTable 33 = .ok (.iconst 2, 1) := by decide +kernel
theorem dX12_takesOwnTable_34 : decode cX12_takesOwnTable 34 = .ok (.iadd, 1) := by decide +kernel
theorem dX12_takesOwnTable_35 : decode cX12_takesOwnTable 35 = .ok (.iconst 0, 1) := by decide +kernel
theorem dX12_takesOwnTable_36 : decode cX12_takesOwnTable 36 = .ok (.iastore, 1) := by decide +kernel
theorem dX12_takesOwnTable_37 : decode cX12_takesOwnTable 37 = .ok (.aload_n 0, 1) := by decide +kernel
theorem dX12_takesOwnTable_38 : decode cX12_takesOwnTable 38 = .ok (.getfield 43, 3) := by decide +kernel
theorem dX12_takesOwnTable_41 : decode cX12_takesOwnTable 41 = .ok (.iload_n 1, 1) := by decide +kernel
theorem dX12_takesOwnTable_42 : decode cX12_takesOwnTable 42 = .ok (.bipush 7, 2) := by decide +kernel
theorem dX12_takesOwnTable_44 : decode cX12_takesOwnTable 44 = .ok (.iadd, 1) := by decide +kernel
theorem dX12_takesOwnTable_45 : decode cX12_takesOwnTable 45 = .ok (.iconst 0, 1) := by decide +kernel
theorem dX12_takesOwnTable_46 : decode cX12_takesOwnTable 46 = .ok (.iastore, 1) := by decide +kernel
theorem dX12_takesOwnTable_47 : decode cX12_takesOwnTable 47 = .ok (.iconst 1, 1) := by decide +kernel
theorem dX12_takesOwnTable_48 : decode cX12_takesOwnTable 48 = .ok (.ireturn, 1) := by decide +kernel
abbrev M_X12_takesOwnTable : mM := (cX12_takesOwnTable, 2, RX12, some .boolean, false, 3, 67, 0, 0)
theorem gX12_takesOwnTable : cI yX12_takesOwnTable M_X12_takesOwnTable 1 := ⟨(wsl_41 _ (List.mem_of_getElem? (i := 0) rfl)), (wsl_41 _ (List.mem_of_getElem? (i := 1) rfl)), (wsl_1 _ (List.mem_of_getElem? (i := 5) rfl)), (wsl_41 _ (List.mem_of_getElem? (i := 2) rfl)), by decide +kernel⟩
noncomputable def fX12_takesOwnTable (h : hH) (a0 a1 : Int) : Option (Int × hH) :=
  (aget h (h a0 6) 0).bind fun v7 =>
  (fX12_takesName h a0 0 v7).bind fun q8 =>
  if q8.1 = 0 then
    some (0, q8.2)
  else
    (aput q8.2 (q8.2 a0 9) (w32 (a1 + 1)) (q8.2 a0 19)).bind fun h27 =>
    (aput h27 (h27 a0 9) (w32 (a1 + 2)) 0).bind fun h36 =>
    (aput h36 (h36 a0 9) (w32 (a1 + 7)) 0).bind fun h46 =>
    some (1, h46)
section M_X12_takesOwnTable
variable {p : Program} {l : Launch} {e : Env} {R : Room} {s : State} {m : MethodId} {args : Array Value} {below : List Frame} {meth : Method} {c : Code} {D : va_G} {G : gG} {A : Nat → Prop} {H0 : Heap} {n0 : Int} {x : Option vV × hH} {h : hH}
set_option maxRecDepth 100000 in
set_option maxHeartbeats 4000000 in
theorem oX12_takesOwnTable_b0 {a0 a1 : Int} {K : Int × hH → Prop} (k0 : ∀ r, K (r) → x = (some (2, r.1), r.2)) {r : Int × hH} (hr : fX12_takesOwnTable h a0 a1 = some r) (hk : K r) : Wq p l e R s m args below meth c D G A H0 true n0 M_X12_takesOwnTable x 0 0 0 [(0, (22, a0)), (1, (0, a1))] [] h := by
  unfold fX12_takesOwnTable at hr
  refine r_aload_n dX12_takesOwnTable_0 rfl 0 rfl (nl rfl) ?_
  refine r_iconst dX12_takesOwnTable_1 (by decide) ?_
  refine r_aload_n dX12_takesOwnTable_2 rfl 0 rfl (nl rfl) ?_
  refine r_get 12 6 (o := a0) (w := (50, h a0 6)) (T := TX12) (ref := "FollowingRefsModel") rfl (by decide) rfl (by decide) inlX12 (wsl_7 _ (List.mem_of_getElem? (i := 8) rfl)) rfl dX12_takesOwnTable_3 rfl ?_
  refine r_iconst dX12_takesOwnTable_6 (by decide) ?_
  obtain ⟨v7, hg7, hr⟩ := bnd hr
  refine r_iald dX12_takesOwnTable_7 hg7 ?_
  obtain ⟨q8, hg8, hr⟩ := bnd hr
  refine k_V (ci := 12) (o := a0) (T := TX12) (as := [(0, 0), (0, v7)]) (rest := []) (X := (some (2, q8.1), q8.2)) (oX12_takesName hg8) gX12_takesName rfl (by decide) rfl (wsl_26 _ (List.mem_of_getElem? (i := 9) rfl)) rfl dX12_takesOwnTable_8 rfl ?_
  refine r_scast 0 (v := (2, q8.1)) (w := (0, q8.1)) rfl zc hTz (st' := [(0, q8.1)]) rfl ?_
  refine r_if_ne dX12_takesOwnTable_11 (tgt := 16) (by decide) (fun hc => ?_) (fun hc => ?_)
  · have hr := ifn hr hc
    refine r_aload_n dX12_takesOwnTable_16 rfl 0 rfl (nl rfl) ?_
    refine r_get 12 9 (o := a0) (w := (50, q8.2 a0 9)) (T := TX12) (ref := "FollowingRefsModel") rfl (by decide) rfl (by decide) inlX12 (wsl_7 _ (List.mem_of_getElem? (i := 11) rfl)) rfl dX12_takesOwnTable_17 rfl ?_
    refine r_iload_n dX12_takesOwnTable_20 rfl 1 rfl (Or.inl rfl) ?_
    refine r_iconst dX12_takesOwnTable_21 (by decide) ?_
    refine r_iadd dX12_takesOwnTable_22 ?_
    refine r_aload_n dX12_takesOwnTable_23 rfl 0 rfl (nl rfl) ?_
    refine r_get 12 19 (o := a0) (w := (0, q8.2 a0 19)) (T := TX12) (ref := "FollowingRefsModel") rfl (by decide) rfl (by decide) inlX12 (wsl_26 _ (List.mem_of_getElem? (i := 2) rfl)) rfl dX12_takesOwnTable_24 rfl ?_
    obtain ⟨h27, hg27, hr⟩ := bnd hr
    refine r_iast dX12_takesOwnTable_27 hg27 ?_
    refine r_aload_n dX12_takesOwnTable_28 rfl 0 rfl (nl rfl) ?_
    refine r_get 12 9 (o := a0) (w := (50, h27 a0 9)) (T := TX12) (ref := "FollowingRefsModel") rfl (by decide) rfl (by decide) inlX12 (wsl_7 _ (List.mem_of_getElem? (i := 11) rfl)) rfl dX12_takesOwnTable_29 rfl ?_
    refine r_iload_n dX12_takesOwnTable_32 rfl 1 rfl (Or.inl rfl) ?_
    refine r_iconst dX12_takesOwnTable_33 (by decide) ?_
    refine r_iadd dX12_takesOwnTable_34 ?_
    refine r_iconst dX12_takesOwnTable_35 (by decide) ?_
    obtain ⟨h36, hg36, hr⟩ := bnd hr
    refine r_iast dX12_takesOwnTable_36 hg36 ?_
    refine r_aload_n dX12_takesOwnTable_37 rfl 0 rfl (nl rfl) ?_
    refine r_get 12 9 (o := a0) (w := (50, h36 a0 9)) (T := TX12) (ref := "FollowingRefsModel") rfl (by decide) rfl (by decide) inlX12 (wsl_7 _ (List.mem_of_getElem? (i := 11) rfl)) rfl dX12_takesOwnTable_38 rfl ?_
    refine r_iload_n dX12_takesOwnTable_41 rfl 1 rfl (Or.inl rfl) ?_
    refine r_bipush dX12_takesOwnTable_42 (by decide) (by decide) ?_
    refine r_iadd dX12_takesOwnTable_44 ?_
    refine r_iconst dX12_takesOwnTable_45 (by decide) ?_
    obtain ⟨h46, hg46, hr⟩ := bnd hr
    refine r_iast dX12_takesOwnTable_46 hg46 ?_
    refine r_iconst dX12_takesOwnTable_47 (by decide) ?_
    refine r_scast 0 (v := (0, 1)) (w := (2, 1)) rfl cz (fun _ => Or.inr rfl) (st' := [(2, 1)]) rfl ?_
    obtain rfl := Option.some.inj hr
    exact r_ret dX12_takesOwnTable_48 rfl (Or.inr ⟨rfl, rfl⟩) (k0 _ hk) ⟨rfl, rfl⟩
  · have hr := ifp hr hc
    refine r_iconst dX12_takesOwnTable_14 (by decide) ?_
    refine r_scast 0 (v := (0, 0)) (w := (2, 0)) rfl cz (fun _ => Or.inl rfl) (st' := [(2, 0)]) rfl ?_
    obtain rfl := Option.some.inj hr
    exact r_ret dX12_takesOwnTable_15 rfl (Or.inr ⟨rfl, rfl⟩) (k0 _ hk) ⟨rfl, rfl⟩
end M_X12_takesOwnTable
theorem oX12_takesOwnTable {l : Launch} {D : va_G} {G : gG} {h : hH} {a0 a1 : Int} {r : Int × hH} (hr : fX12_takesOwnTable h a0 a1 = some r) : Ctr l D G true yX12_takesOwnTable M_X12_takesOwnTable [(22, a0), (0, a1)] h (some (2, r.1), r.2) :=
  Ctr_of (by decide) rfl (fun z => by cases z) (nl rfl) (fun {p e R s m args below meth c A H0} => by
    exact oX12_takesOwnTable_b0 (K := fun z9 => z9 = r) (fun r9 z => by rw [z]) hr rfl)
