/-! X12_operand -/
theorem dX12_operand_0 : decode cX12_operand 0 = .ok (.aload_n 0, 1) := by decide +kernel
theorem dX12_operand_1 : decode cX12_operand 1 = .ok (.ldc2_w 175, 3) := by decide +kernel
theorem dX12_operand_4 : decode cX12_operand 4 = .ok (.invokevirtual 248, 3) := by decide +kernel
theorem dX12_operand_7 : decode cX12_operand 7 = .ok (.istore_n 1, 1) := by decide +kernel
theorem dX12_operand_8 : decode cX12_operand 8 = .ok (.aload_n 0, 1) := by decide +kernel
theorem dX12_operand_9 : decode cX12_operand 9 = .ok (.bipush 40, 2) := by decide +kernel
theorem dX12_operand_11 : decode cX12_operand 11 = .ok (.invokevirtual 220, 3) := by decide +kernel
theorem dX12_operand_14 : decode cX12_operand 14 = .ok (.istore_n 2, 1) := by decide +kernel
theorem dX12_operand_15 : decode cX12_operand 15 = .ok (.aload_n 0, 1) := by decide +kernel
theorem dX12_operand_16 : decode cX12_operand 16 = .ok (.invokevirtual 567, 3) := by decide +kernel
theorem dX12_operand_19 : decode cX12_operand 19 = .ok (.istore_n 3, 1) := by decide +kernel
theorem dX12_operand_20 : decode cX12_operand 20 = .ok (.iload_n 1, 1) := by decide +kernel
theorem dX12_operand_21 : decode cX12_operand 21 = .ok (.ifCond .ne 17, 3) := by decide +kernel
theorem dX12_operand_24 : decode cX12_operand 24 = .ok (.iload_n 2, 1) := by decide +kernel
theorem dX12_operand_25 : decode cX12_operand 25 = .ok (.ifCond .ne 13, 3) := by decide +kernel
theorem dX12_operand_28 : decode cX12_operand 28 = .ok (.iload_n 3, 1) := by decide +kernel
theorem dX12_operand_29 : decode cX12_operand 29 = .ok (.ifCond .ge 9, 3) := by decide +kernel
theorem dX12_operand_32 : decode cX12_operand 32 = .ok (.aload_n 0, 1) := by decide +kernel
theorem dX12_operand_33 : decode cX12_operand 33 = .ok (.iconst 1, 1) := by decide +kernel
theorem dX12_operand_34 : decode cX12_operand 34 = .ok (.invokevirtual 223, 3) := by decide +kernel
theorem dX12_operand_37 : decode cX12_operand 37 = .ok (.ireturn, 1) := by decide +kernel
theorem dX12_operand_38 : decode cX12_operand 38 = .ok (.iload_n 3, 1) := by decide +kernel
theorem dX12_operand_39 : decode cX12_operand 39 = .ok (.bipush 100, 2) := by decide +kernel
theorem dX12_operand_41 : decode cX12_operand 41 = .ok (.if_icmp .ne 9, 3) := by decide +kernel
theorem dX12_operand_44 : decode cX12_operand 44 = .ok (.aload_n 0, 1) := by decide +kernel
theorem dX12_operand_45 : decode cX12_operand 45 = .ok (.iconst 3, 1) := by decide +kernel
theorem dX12_operand_46 : decode cX12_operand 46 = .ok (.invokevirtual 223, 3) := by decide +kernel
theorem dX12_operand_49 : decode cX12_operand 49 = .ok (.ireturn, 1) := by decide +kernel
theorem dX12_operand_50 : decode cX12_operand 50 = .ok (.aload_n 0, 1) := by decide +kernel
theorem dX12_operand_51 : decode cX12_operand 51 = .ok (.getfield 570, 3) := by decide +kernel
theorem dX12_operand_54 : decode cX12_operand 54 = .ok (.bipush 20, 2) := by decide +kernel
theorem dX12_operand_56 : decode cX12_operand 56 = .ok (.if_icmp .eq 12, 3) := by decide +kernel
theorem dX12_operand_59 : decode cX12_operand 59 = .ok (.aload_n 0, 1) := by decide +kernel
theorem dX12_operand_60 : decode cX12_operand 60 = .ok (.getfield 561, 3) := by decide +kernel
theorem dX12_operand_63 : decode cX12_operand 63 = .ok (.bipush 8, 2) := by decide +kernel
theorem dX12_operand_65 : decode cX12_operand 65 = .ok (.if_icmp .le 9, 3) := by decide +kernel
theorem dX12_operand_68 : decode cX12_operand 68 = .ok (.aload_n 0, 1) := by decide +kernel
theorem dX12_operand_69 : decode cX12_operand 69 = .ok (.iconst 4, 1) := by decide +kernel
theorem dX12_operand_70 : decode cX12_operand 70 = .ok (.invokevirtual 223, 3) := by decide +kernel
theorem dX12_operand_73 : decode cX12_operand 73 = .ok (.ireturn, 1) := by decide +kernel
theorem dX12_operand_74 : decode cX12_operand 74 = .ok (.aload_n 0, 1) := by decide +kernel
theorem dX12_operand_75 : decode cX12_operand 75 = .ok (.dup, 1) := by decide +kernel
theorem dX12_operand_76 : decode cX12_operand 76 = .ok (.getfield 570, 3) := by decide +kernel
theorem dX12_operand_79 : decode cX12_operand 79 = .ok (.iconst 1, 1) := by decide +kernel
theorem dX12_operand_80 : decode cX12_operand 80 = .ok (.iadd, 1) := by decide +kernel
theorem dX12_operand_81 : decode cX12_operand 81 = .ok (.putfield 570, 3) := by decide +kernel
theorem dX12_operand_84 : decode cX12_operand 84 = .ok (.aload_n 0, 1) := by decide +kernel
theorem dX12_operand_85 : decode cX12_operand 85 = .ok (.invokevirtual 226, 3) := by decide +kernel
theorem dX12_operand_88 : decode cX12_operand 88 = .ok (.iload_n 1, 1) := by decide +kernel
theorem dX12_operand_89 : decode cX12_operand 89 = .ok (.ifCond .ne 7, 3) := by decide +kernel
theorem dX12_operand_92 : decode cX12_operand 92 = .ok (.iload_n 2, 1) := by decide +kernel
theorem dX12_operand_93 : decode cX12_operand 93 = .ok (.ifCond .eq 45, 3) := by decide +kernel
theorem dX12_operand_96 : decode cX12_operand 96 = .ok (.aload_n 0, 1) := by decide +kernel
theorem dX12_operand_97 : decode cX12_operand 97 = .ok (.getfield 113, 3) := by decide +kernel
theorem dX12_operand_100 : decode cX12_operand 100 = .ok (.aload_n 0, 1) := by decide +kernel
theorem dX12_operand_101 : decode cX12_operand 101 = .ok (.getfield 555, 3) := by decide +kernel
theorem dX12_operand_104 : decode cX12_operand 104 = .ok (.iload_n 1, 1) := by decide +kernel
theorem dX12_operand_105 : decode cX12_operand 105 = .ok (.ifCond .eq 8, 3) := by decide +kernel
theorem dX12_operand_108 : decode cX12_operand 108 = .ok (.bipush 20, 2) := by decide +kernel
theorem dX12_operand_110 : decode cX12_operand 110 = .ok (.goto 5, 3) := by decide +kernel
theorem dX12_operand_113 : decode cX12_operand 113 = .ok (.bipush 23, 2) := by decide +kernel
theorem dX12_operand_115 : decode cX12_operand 115 = .ok (.iastore, 1) := by decide +kernel
theorem dX12_operand_116 : decode cX12_operand 116 = .ok (.aload_n 0, 1) := by decide +kernel
theorem dX12_operand_117 : decode cX12_operand 117 = .ok (.dup, 1) := by decide +kernel
theorem dX12_operand_118 : decode cX12_operand 118 = .ok (.getfield 555, 3) := by decide +kernel
theorem dX12_operand_121 : decode cX12_operand 121 = .ok (.iconst 1, 1) := by decide +kernel
theorem dX12_operand_122 : decode cX12_operand 122 = .ok (.iadd, 1) := by decide +kernel
theorem dX12_operand_123 : decode cX12_operand 123 = .ok (.putfield 555, 3) := by decide +kernel
theorem dX12_operand_126 : decode cX12_operand 126 = .ok (.aload_n 0, 1) := by decide +kernel
theorem dX12_operand_127 : decode cX12_operand 127 = .ok (.dup, 1) := by decide +kernel
theorem dX12_operand_128 : decode cX12_operand 128 = .ok (.getfield 561, 3) := by decide +kernel
theorem dX12_operand_131 : decode cX12_operand 131 = .ok (.iconst 1, 1) := by decide +kernel
theorem dX12_operand_132 : decode cX12_operand 132 = .ok (.iadd, 1) := by decide +kernel
theorem dX12_operand_133 : decode cX12_operand 133 = .ok (.putfield 561, 3) := by decide +kernel
theorem dX12_operand_136 : decode cX12_operand 136 = .ok (.iconst 1, 1) := by decide +kernel
theorem dX12_operand_137 : decode cX12_operand 137 = .ok (.ireturn, 1) := by decide +kernel
theorem dX12_operand_138 : decode cX12_operand 138 = .ok (.aload_n 0, 1) := by decide +kernel
theorem dX12_operand_139 : decode cX12_operand 139 = .ok (.iconst 1, 1) := by decide +kernel
theorem dX12_operand_140 : decode cX12_operand 140 = .ok (.putfield 573, 3) := by decide +kernel
theorem dX12_operand_143 : decode cX12_operand 143 = .ok (.iload_n 3, 1) := by decide +kernel
theorem dX12_operand_144 : decode cX12_operand 144 = .ok (.iconst 3, 1) := by decide +kernel
theorem dX12_operand_145 : decode cX12_operand 145 = .ok (.if_icmp .ge 12, 3) := by decide +kernel
theorem dX12_operand_148 : decode cX12_operand 148 = .ok (.aload_n 0, 1) := by decide +kernel
theorem dX12_operand_149 : decode cX12_operand 149 = .ok (.iload_n 3, 1) := by decide +kernel
theorem dX12_operand_150 : decode cX12_operand 150 = .ok (.iconst 0, 1) := by decide +kernel
theorem dX12_operand_151 : decode cX12_operand 151 = .ok (.iconst 0, 1) := by decide +kernel
theorem dX12_operand_152 : decode cX12_operand 152 = .ok (.invokevirtual 558, 3) := by decide +kernel
theorem dX12_operand_155 : decode cX12_operand 155 = .ok (.iconst 1, 1) := by decide +kernel
theorem dX12_operand_156 : decode cX12_operand 156 = .ok (.ireturn, 1) := by decide +kernel
theorem dX12_operand_157 : decode cX12_operand 157 = .ok (.iload_n 3, 1) := by decide +kernel
theorem dX12_operand_158 : decode cX12_operand 158 = .ok (.iconst 3, 1) := by decide +kernel
theorem dX12_operand_159 : decode cX12_operand 159 = .ok (.if_icmp .ne 35, 3) := by decide +kernel
theorem dX12_operand_162 : decode cX12_operand 162 = .ok (.aload_n 0, 1) := by decide +kernel
theorem dX12_operand_163 : decode cX12_operand 163 = .ok (.iconst 0, 1) := by decide +kernel
theorem dX12_operand_164 : decode cX12_operand 164 = .ok (.aload_n 0, 1) := by decide +kernel
theorem dX12_operand_165 : decode cX12_operand 165 = .ok (.getfield 33, 3) := by decide +kernel
theorem dX12_operand_168 : decode cX12_operand 168 = .ok (.iconst 0, 1) := by decide +kernel
theorem dX12_operand_169 : decode cX12_operand 169 = .ok (.iaload, 1) := by decide +kernel
theorem dX12_operand_170 : decode cX12_operand 170 = .ok (.invokevirtual 244, 3) := by decide +kernel
theorem dX12_operand_173 : decode cX12_operand 173 = .ok (.ifCond .ne 5, 3) := by decide +kernel
theorem dX12_operand_176 : decode cX12_operand 176 = .ok (.iconst 0, 1) := by decide +kernel
theorem dX12_operand_177 : decode cX12_operand 177 = .ok (.ireturn, 1) := by decide +kernel
theorem dX12_operand_178 : decode cX12_operand 178 = .ok (.aload_n 0, 1) := by decide +kernel
theorem dX12_operand_179 : decode cX12_operand 179 = .ok (.iload_n 3, 1) := by decide +kernel
theorem dX12_operand_180 : decode cX12_operand 180 = .ok (.iconst 0, 1) := by decide +kernel
theorem dX12_operand_181 : decode cX12_operand 181 = .ok (.aload_n 0, 1) := by decide +kernel
theorem dX12_operand_182 : decode cX12_operand 182 = .ok (.getfield 233, 3) := by decide +kernel
theorem dX12_operand_185 : decode cX12_operand 185 = .ok (.invokevirtual 558, 3) := by decide +kernel
theorem dX12_operand_188 : decode cX12_operand 188 = .ok (.aload_n 0, 1) := by decide +kernel
theorem dX12_operand_189 : decode cX12_operand 189 = .ok (.invokevirtual 226, 3) := by decide +kernel
theorem dX12_operand_192 : decode cX12_operand 192 = .ok (.iconst 1, 1) := by decide +kernel
theorem dX12_operand_193 : decode cX12_operand 193 = .ok (.ireturn, 1) := by decide +kernel
theorem dX12_operand_194 : decode cX12_operand 194 = .ok (.aload_n 0, 1) := by decide +kernel
theorem dX12_operand_195 : decode cX12_operand 195 = .ok (.getfield 197, 3) := by decide +kernel
theorem dX12_operand_198 : decode cX12_operand 198 = .ok (.iconst 3, 1) := by decide +kernel
theorem dX12_operand_199 : decode cX12_operand 199 = .ok (.if_icmp .ne 21, 3) := by decide +kernel
theorem dX12_operand_202 : decode cX12_operand 202 = .ok (.aload_n 0, 1) := by decide +kernel
theorem dX12_operand_203 : decode cX12_operand 203 = .ok (.getfield 207, 3) := by decide +kernel
theorem dX12_operand_206 : decode cX12_operand 206 = .ok (.bipush 60, 2) := by decide +kernel
theorem dX12_operand_208 : decode cX12_operand 208 = .ok (.if_icmp .lt 12, 3) := by decide +kernel
theorem dX12_operand_211 : decode cX12_operand 211 = .ok (.aload_n 0, 1) := by decide +kernel
theorem dX12_operand_212 : decode cX12_operand 212 = .ok (.getfield 207, 3) := by decide +kernel
theorem dX12_operand_215 : decode cX12_operand 215 = .ok (.bipush 62, 2) := by decide +kernel
theorem dX12_operand_217 : decode cX12_operand 217 = .ok (.if_icmp .le 9, 3) := by decide +kernel
theorem dX12_operand_220 : decode cX12_operand 220 = .ok (.aload_n 0, 1) := by decide +kernel
theorem dX12_operand_221 : decode cX12_operand 221 = .ok (.iconst 1, 1) := by decide +kernel
theorem dX12_operand_222 : decode cX12_operand 222 = .ok (.invokevirtual 223, 3) := by decide +kernel
theorem dX12_operand_225 : decode cX12_operand 225 = .ok (.ireturn, 1) := by decide +kernel
theorem dX12_operand_226 : decode cX12_operand 226 = .ok (.aload_n 0, 1) := by decide +kernel
theorem dX12_operand_227 : decode cX12_operand 227 = .ok (.getfield 207, 3) := by decide +kernel
theorem dX12_operand_230 : decode cX12_operand 230 = .ok (.istore 4, 2) := by decide +kernel
theorem dX12_operand_232 : decode cX12_operand 232 = .ok (.aload_n 0, 1) := by decide +kernel
theorem dX12_operand_233 : decode cX12_operand 233 = .ok (.invokevirtual 226, 3) := by decide +kernel
theorem dX12_operand_236 : decode cX12_operand 236 = .ok (.aload_n 0, 1) := by decide +kernel
theorem dX12_operand_237 : decode cX12_operand 237 = .ok (.getfield 197, 3) := by decide +kernel
theorem dX12_operand_240 : decode cX12_operand 240 = .ok (.iconst 2, 1) := by decide +kernel
theorem dX12_operand_241 : decode cX12_operand 241 = .ok (.if_icmp .eq 9, 3) := by decide +kernel
theorem dX12_operand_244 : decode cX12_operand 244 = .ok (.aload_n 0, 1) := by decide +kernel
theorem dX12_operand_245 : decode cX12_operand 245 = .ok (.iconst 1, 1) := by decide +kernel
theorem dX12_operand_246 : decode cX12_operand 246 = .ok (.invokevirtual 223, 3) := by decide +kernel
theorem dX12_operand_249 : decode cX12_operand 249 = .ok (.ireturn, 1) := by decide +kernel
theorem dX12_operand_250 : decode cX12_operand 250 = .ok (.aload_n 0, 1) := by decide +kernel
theorem dX12_operand_251 : decode cX12_operand 251 = .ok (.getfield 207, 3) := by decide +kernel
theorem dX12_operand_254 : decode cX12_operand 254 = .ok (.bipush 99, 2) := by decide +kernel
theorem dX12_operand_256 : decode cX12_operand 256 = .ok (.if_icmp .le 9, 3) := by decide +kernel
theorem dX12_operand_259 : decode cX12_operand 259 = .ok (.aload_n 0, 1) := by decide +kernel
theorem dX12_operand_260 : decode cX12_operand 260 = .ok (.iconst 2, 1) := by decide +kernel
theorem dX12_operand_261 : decode cX12_operand 261 = .ok (.invokevirtual 223, 3) := by decide +kernel
theorem dX12_operand_264 : decode cX12_operand 264 = .ok (.ireturn, 1) := by decide +kernel
theorem dX12_operand_265 : decode cX12_operand 265 = .ok (.aload_n 0, 1) := by decide +kernel
theorem dX12_operand_266 : decode cX12_operand 266 = .ok (.iload_n 3, 1) := by decide +kernel
theorem dX12_operand_267 : decode cX12_operand 267 = .ok (.iload 4, 2) := by decide +kernel
theorem dX12_operand_269 : decode cX12_operand 269 = .ok (.aload_n 0, 1) := by decide +kernel
theorem dX12_operand_270 : decode cX12_operand 270 = .ok (.getfield 207, 3) := by decide +kernel
theorem dX12_operand_273 : decode cX12_operand 273 = .ok (.invokevirtual 558, 3) := by decide +kernel
theorem dX12_operand_276 : decode cX12_operand 276 = .ok (.aload_n 0, 1) := by decide +kernel
theorem dX12_operand_277 : decode cX12_operand 277 = .ok (.invokevirtual 226, 3) := by decide +kernel
theorem dX12_operand_280 : decode cX12_operand 280 = .ok (.iconst 1, 1) := by decide +kernel
theorem dX12_operand_281 : decode cX12_operand 281 = .ok (.ireturn, 1) := by decide +kernel
abbrev M_X12_operand : mM := (cX12_operand, 5, RX12, some .boolean, false, 3, 65, 0, 0)
theorem gX12_operand : cI yX12_operand M_X12_operand 0 := ⟨(wsl_69 _ (List.mem_of_getElem? (i := 20) rfl)), (wsl_69 _ (List.mem_of_getElem? (i := 21) rfl)), (wsl_1 _ (List.mem_of_getElem? (i := 5) rfl)), (wsl_69 _ (List.mem_of_getElem? (i := 22) rfl)), by decide +kernel⟩
noncomputable def fX12_operand_b220 (h : hH) (a0 : Int) : Option (Int × hH) :=
  (fX12_bad h a0 1).bind fun q222 =>
  some (q222.1, q222.2)
noncomputable def fX12_operand_b115 (h : hH) (a0 s0 s1 s2 : Int) : Option (Int × hH) :=
  (aput h s2 s1 s0).bind fun h115 =>
  (pput h115 a0 59 (w32 ((h115 a0 59) + 1))).bind fun h123 =>
  (pput h123 a0 60 (w32 ((h123 a0 60) + 1))).bind fun h133 =>
  some (1, h133)
noncomputable def fX12_operand_b96 (h : hH) (a0 l1 : Int) : Option (Int × hH) :=
  if l1 = 0 then
    fX12_operand_b115 h a0 23 (h a0 59) (h a0 56)
  else
    fX12_operand_b115 h a0 20 (h a0 59) (h a0 56)
noncomputable def fX12_operand_b68 (h : hH) (a0 : Int) : Option (Int × hH) :=
  (fX12_bad h a0 4).bind fun q70 =>
  some (q70.1, q70.2)
noncomputable def fX12_operand_b38 (h : hH) (a0 l1 l2 l3 : Int) : Option (Int × hH) :=
  if l3 = 100 then
    (fX12_bad h a0 3).bind fun q46 =>
    some (q46.1, q46.2)
  else
    if h a0 58 = 20 then
      fX12_operand_b68 h a0
    else
      if 8 < h a0 60 then
        fX12_operand_b68 h a0
      else
        (pput h a0 58 (w32 ((h a0 58) + 1))).bind fun h81 =>
        (fX12_next h81 a0).bind fun h85 =>
        if l1 = 0 then
          if l2 = 0 then
            (pput h85 a0 61 1).bind fun h140 =>
            if l3 < 3 then
              (fX12_code h140 a0 l3 0 0).bind fun h152 =>
              some (1, h152)
            else
              if l3 = 3 then
                (aget h140 (h140 a0 6) 0).bind fun v169 =>
                (fX12_looksAt h140 a0 0 v169).bind fun q170 =>
                if q170.1 = 0 then
                  some (0, q170.2)
                else
                  (fX12_code q170.2 a0 l3 0 (q170.2 a0 19)).bind fun h185 =>
                  (fX12_next h185 a0).bind fun h189 =>
                  some (1, h189)
              else
                if h140 a0 12 = 3 then
                  if h140 a0 15 < 60 then
                    fX12_operand_b220 h140 a0
                  else
                    if 62 < h140 a0 15 then
                      fX12_operand_b220 h140 a0
                    else
                      (fX12_next h140 a0).bind fun h233 =>
                      if h233 a0 12 = 2 then
                        if 99 < h233 a0 15 then
                          (fX12_bad h233 a0 2).bind fun q261 =>
                          some (q261.1, q261.2)
                        else
                          (fX12_code h233 a0 l3 (h140 a0 15) (h233 a0 15)).bind fun h273 =>
                          (fX12_next h273 a0).bind fun h277 =>
                          some (1, h277)
                      else
                        (fX12_bad h233 a0 1).bind fun q246 =>
                        some (q246.1, q246.2)
                else
                  fX12_operand_b220 h140 a0
          else
            fX12_operand_b96 h85 a0 l1
        else
          fX12_operand_b96 h85 a0 l1
noncomputable def fX12_operand (h : hH) (a0 : Int) : Option (Int × hH) :=
  (fX12_isWord h a0 7237492).bind fun r4 =>
  (fX12_isSign h a0 40).bind fun r11 =>
  (fX12_leafOf h a0).bind fun r16 =>
  if r4 = 0 then
    if r11 = 0 then
      if r16 < 0 then
        (fX12_bad h a0 1).bind fun q34 =>
        some (q34.1, q34.2)
      else
        fX12_operand_b38 h a0 r4 r11 r16
    else
      fX12_operand_b38 h a0 r4 r11 r16
  else
    fX12_operand_b38 h a0 r4 r11 r16
section M_X12_operand
variable {p : Program} {l : Launch} {e : Env} {R : Room} {s : State} {m : MethodId} {args : Array Value} {below : List Frame} {meth : Method} {c : Code} {D : va_G} {G : gG} {A : Nat → Prop} {H0 : Heap} {n0 : Int} {x : Option vV × hH} {h : hH}
set_option maxRecDepth 100000 in
set_option maxHeartbeats 4000000 in
theorem oX12_operand_b220 {a0 : Int} {K : Int × hH → Prop} (k0 : ∀ r, K (r) → x = (some (2, r.1), r.2)) {r : Int × hH} (hr : fX12_operand_b220 h a0 = some r) (hk : K r) : Wq p l e R s m args below meth c D G A H0 true n0 M_X12_operand x 0 0 220 [(0, (22, a0))] [] h := by
  unfold fX12_operand_b220 at hr
  refine r_aload_n dX12_operand_220 rfl 0 rfl (nl rfl) ?_
  refine r_iconst dX12_operand_221 (by decide) ?_
  obtain ⟨q222, hg222, hr⟩ := bnd hr
  refine k_V (ci := 12) (o := a0) (T := TX12) (as := [(0, 1)]) (rest := []) (X := (some (2, q222.1), q222.2)) (oX12_bad hg222) gX12_bad rfl (by decide) rfl (wsl_25 _ (List.mem_of_getElem? (i := 6) rfl)) rfl dX12_operand_222 rfl ?_
  obtain rfl := Option.some.inj hr
  exact r_ret dX12_operand_225 rfl (Or.inr ⟨rfl, rfl⟩) (k0 _ hk) ⟨rfl, rfl⟩
set_option maxRecDepth 100000 in
set_option maxHeartbeats 4000000 in
theorem oX12_operand_b115 {a0 s0 s1 s2 : Int} {K : Int × hH → Prop} (k0 : ∀ r, K (r) → x = (some (2, r.1), r.2)) {r : Int × hH} (hr : fX12_operand_b115 h a0 s0 s1 s2 = some r) (hk : K r) : Wq p l e R s m args below meth c D G A H0 true n0 M_X12_operand x 0 0 115 [(0, (22, a0))] [(0, s0), (0, s1), (50, s2)] h := by
  unfold fX12_operand_b115 at hr
  obtain ⟨h115, hg115, hr⟩ := bnd hr
  refine r_iast dX12_operand_115 hg115 ?_
  refine r_aload_n dX12_operand_116 rfl 0 rfl (nl rfl) ?_
  refine r_dup dX12_operand_117 (Nat.ne_of_beq_eq_false rfl) ?_
  refine r_get 12 59 (o := a0) (w := (0, h115 a0 59)) (T := TX12) (ref := "FollowingRefsModel") rfl (by decide) rfl (by decide) inlX12 (wsl_69 _ (List.mem_of_getElem? (i := 0) rfl)) rfl dX12_operand_118 rfl ?_
  refine r_iconst dX12_operand_121 (by decide) ?_
  refine r_iadd dX12_operand_122 ?_
  obtain ⟨h123, hg123, hr⟩ := bnd hr
  refine r_put' 12 59 (t := 0) (ref := "FollowingRefsModel") hg123 rfl tyX12 tyX12_ok nmX12 rfl (by decide) rfl (by decide) inlX12 (wsl_69 _ (List.mem_of_getElem? (i := 0) rfl)) rfl rfl (by decide +kernel) (by decide) rfl (Or.inl ⟨rfl, rfl⟩) dX12_operand_123 ?_
  refine r_aload_n dX12_operand_126 rfl 0 rfl (nl rfl) ?_
  refine r_dup dX12_operand_127 (Nat.ne_of_beq_eq_false rfl) ?_
  refine r_get 12 60 (o := a0) (w := (0, h123 a0 60)) (T := TX12) (ref := "FollowingRefsModel") rfl (by decide) rfl (by decide) inlX12 (wsl_69 _ (List.mem_of_getElem? (i := 1) rfl)) rfl dX12_operand_128 rfl ?_
  refine r_iconst dX12_operand_131 (by decide) ?_
  refine r_iadd dX12_operand_132 ?_
  obtain ⟨h133, hg133, hr⟩ := bnd hr
  refine r_put' 12 60 (t := 0) (ref := "FollowingRefsModel") hg133 rfl tyX12 tyX12_ok nmX12 rfl (by decide) rfl (by decide) inlX12 (wsl_69 _ (List.mem_of_getElem? (i := 1) rfl)) rfl rfl (by decide +kernel) (by decide) rfl (Or.inl ⟨rfl, rfl⟩) dX12_operand_133 ?_
  refine r_iconst dX12_operand_136 (by decide) ?_
  refine r_scast 0 (v := (0, 1)) (w := (2, 1)) rfl cz (fun _ => Or.inr rfl) (st' := [(2, 1)]) rfl ?_
  obtain rfl := Option.some.inj hr
  exact r_ret dX12_operand_137 rfl (Or.inr ⟨rfl, rfl⟩) (k0 _ hk) ⟨rfl, rfl⟩
set_option maxRecDepth 100000 in
set_option maxHeartbeats 4000000 in
theorem oX12_operand_b96 {a0 l1 : Int} {K : Int × hH → Prop} (k0 : ∀ r, K (r) → x = (some (2, r.1), r.2)) {r : Int × hH} (hr : fX12_operand_b96 h a0 l1 = some r) (hk : K r) : Wq p l e R s m args below meth c D G A H0 true n0 M_X12_operand x 0 0 96 [(0, (22, a0)), (1, (2, l1))] [] h := by
  unfold fX12_operand_b96 at hr
  refine r_aload_n dX12_operand_96 rfl 0 rfl (nl rfl) ?_
  refine r_get 12 56 (o := a0) (w := (50, h a0 56)) (T := TX12) (ref := "FollowingRefsModel") rfl (by decide) rfl (by decide) inlX12 (wsl_8 _ (List.mem_of_getElem? (i := 10) rfl)) rfl dX12_operand_97 rfl ?_
  refine r_aload_n dX12_operand_100 rfl 0 rfl (nl rfl) ?_
  refine r_get 12 59 (o := a0) (w := (0, h a0 59)) (T := TX12) (ref := "FollowingRefsModel") rfl (by decide) rfl (by decide) inlX12 (wsl_69 _ (List.mem_of_getElem? (i := 0) rfl)) rfl dX12_operand_101 rfl ?_
  refine r_iload_n dX12_operand_104 rfl 1 rfl (Or.inr rfl) ?_
  refine r_scast 0 (v := (2, l1)) (w := (0, l1)) rfl zc hTz (st' := [(0, l1), (0, h a0 59), (50, h a0 56)]) rfl ?_
  refine r_if_eq dX12_operand_105 (tgt := 113) (by decide) (fun hc => ?_) (fun hc => ?_)
  · have hr := ifp hr hc
    refine r_bipush dX12_operand_113 (by decide) (by decide) ?_
    refine r_sub [0] (lv' := [(0, (22, a0))]) rfl ?_
    exact oX12_operand_b115 (K := K) (fun r z => k0 r z) hr hk
  · have hr := ifn hr hc
    refine r_bipush dX12_operand_108 (by decide) (by decide) ?_
    refine r_goto dX12_operand_110 (tgt := 115) (by decide) ?_
    refine r_sub [0] (lv' := [(0, (22, a0))]) rfl ?_
    exact oX12_operand_b115 (K := K) (fun r z => k0 r z) hr hk
set_option maxRecDepth 100000 in
set_option maxHeartbeats 4000000 in
theorem oX12_operand_b68 {a0 : Int} {K : Int × hH → Prop} (k0 : ∀ r, K (r) → x = (some (2, r.1), r.2)) {r : Int × hH} (hr : fX12_operand_b68 h a0 = some r) (hk : K r) : Wq p l e R s m args below meth c D G A H0 true n0 M_X12_operand x 0 0 68 [(0, (22, a0))] [] h := by
  unfold fX12_operand_b68 at hr
  refine r_aload_n dX12_operand_68 rfl 0 rfl (nl rfl) ?_
  refine r_iconst dX12_operand_69 (by decide) ?_
  obtain ⟨q70, hg70, hr⟩ := bnd hr
  refine k_V (ci := 12) (o := a0) (T := TX12) (as := [(0, 4)]) (rest := []) (X := (some (2, q70.1), q70.2)) (oX12_bad hg70) gX12_bad rfl (by decide) rfl (wsl_25 _ (List.mem_of_getElem? (i := 6) rfl)) rfl dX12_operand_70 rfl ?_
  obtain rfl := Option.some.inj hr
  exact r_ret dX12_operand_73 rfl (Or.inr ⟨rfl, rfl⟩) (k0 _ hk) ⟨rfl, rfl⟩
set_option maxRecDepth 100000 in
set_option maxHeartbeats 4000000 in
theorem oX12_operand_b38 {a0 l1 l2 l3 : Int} {K : Int × hH → Prop} (k0 : ∀ r, K (r) → x = (some (2, r.1), r.2)) {r : Int × hH} (hr : fX12_operand_b38 h a0 l1 l2 l3 = some r) (hk : K r) : Wq p l e R s m args below meth c D G A H0 true n0 M_X12_operand x 0 0 38 [(0, (22, a0)), (1, (2, l1)), (2, (2, l2)), (3, (0, l3))] [] h := by
  unfold fX12_operand_b38 at hr
  refine r_iload_n dX12_operand_38 rfl 3 rfl (Or.inl rfl) ?_
  refine r_bipush dX12_operand_39 (by decide) (by decide) ?_
  refine r_icmp_ne dX12_operand_41 (tgt := 50) (by decide) (fun hc => ?_) (fun hc => ?_)
  · have hr := ifn hr hc
    refine r_aload_n dX12_operand_50 rfl 0 rfl (nl rfl) ?_
    refine r_get 12 58 (o := a0) (w := (0, h a0 58)) (T := TX12) (ref := "FollowingRefsModel") rfl (by decide) rfl (by decide) inlX12 (wsl_68 _ (List.mem_of_getElem? (i := 23) rfl)) rfl dX12_operand_51 rfl ?_
    refine r_bipush dX12_operand_54 (by decide) (by decide) ?_
    refine r_icmp_eq dX12_operand_56 (tgt := 68) (by decide) (fun hc => ?_) (fun hc => ?_)
    · have hr := ifp hr hc
      refine r_sub [0] (lv' := [(0, (22, a0))]) rfl ?_
      exact oX12_operand_b68 (K := K) (fun r z => k0 r z) hr hk
    · have hr := ifn hr hc
      refine r_aload_n dX12_operand_59 rfl 0 rfl (nl rfl) ?_
      refine r_get 12 60 (o := a0) (w := (0, h a0 60)) (T := TX12) (ref := "FollowingRefsModel") rfl (by decide) rfl (by decide) inlX12 (wsl_69 _ (List.mem_of_getElem? (i := 1) rfl)) rfl dX12_operand_60 rfl ?_
      refine r_bipush dX12_operand_63 (by decide) (by decide) ?_
      refine r_icmp_le dX12_operand_65 (tgt := 74) (by decide) (fun hc => ?_) (fun hc => ?_)
      · have hr := ifn hr hc
        refine r_aload_n dX12_operand_74 rfl 0 rfl (nl rfl) ?_
        refine r_dup dX12_operand_75 (Nat.ne_of_beq_eq_false rfl) ?_
        refine r_get 12 58 (o := a0) (w := (0, h a0 58)) (T := TX12) (ref := "FollowingRefsModel") rfl (by decide) rfl (by decide) inlX12 (wsl_68 _ (List.mem_of_getElem? (i := 23) rfl)) rfl dX12_operand_76 rfl ?_
        refine r_iconst dX12_operand_79 (by decide) ?_
        refine r_iadd dX12_operand_80 ?_
        obtain ⟨h81, hg81, hr⟩ := bnd hr
        refine r_put' 12 58 (t := 0) (ref := "FollowingRefsModel") hg81 rfl tyX12 tyX12_ok nmX12 rfl (by decide) rfl (by decide) inlX12 (wsl_68 _ (List.mem_of_getElem? (i := 23) rfl)) rfl rfl (by decide +kernel) (by decide) rfl (Or.inl ⟨rfl, rfl⟩) dX12_operand_81 ?_
        refine r_aload_n dX12_operand_84 rfl 0 rfl (nl rfl) ?_
        obtain ⟨h85, hg85, hr⟩ := bnd hr
        refine k_V (ci := 12) (o := a0) (T := TX12) (as := []) (rest := []) (X := (none, h85)) (oX12_next hg85) gX12_next rfl (by decide) rfl (wsl_24 _ (List.mem_of_getElem? (i := 0) rfl)) rfl dX12_operand_85 rfl ?_
        refine r_iload_n dX12_operand_88 rfl 1 rfl (Or.inr rfl) ?_
        refine r_scast 0 (v := (2, l1)) (w := (0, l1)) rfl zc hTz (st' := [(0, l1)]) rfl ?_
        refine r_if_ne dX12_operand_89 (tgt := 96) (by decide) (fun hc => ?_) (fun hc => ?_)
        · have hr := ifn hr hc
          refine r_sub [0, 1] (lv' := [(0, (22, a0)), (1, (2, l1))]) rfl ?_
          exact oX12_operand_b96 (K := K) (fun r z => k0 r z) hr hk
        · have hr := ifp hr hc
          refine r_iload_n dX12_operand_92 rfl 2 rfl (Or.inr rfl) ?_
          refine r_scast 0 (v := (2, l2)) (w := (0, l2)) rfl zc hTz (st' := [(0, l2)]) rfl ?_
          refine r_if_eq dX12_operand_93 (tgt := 138) (by decide) (fun hc => ?_) (fun hc => ?_)
          · have hr := ifp hr hc
            refine r_aload_n dX12_operand_138 rfl 0 rfl (nl rfl) ?_
            refine r_iconst dX12_operand_139 (by decide) ?_
            refine r_scast 0 (v := (0, 1)) (w := (2, 1)) rfl cz (fun _ => Or.inr rfl) (st' := [(2, 1), (22, a0)]) rfl ?_
            obtain ⟨h140, hg140, hr⟩ := bnd hr
            refine r_put' 12 61 (t := 2) (ref := "FollowingRefsModel") hg140 rfl tyX12 tyX12_ok nmX12 rfl (by decide) rfl (by decide) inlX12 (wsl_69 _ (List.mem_of_getElem? (i := 2) rfl)) rfl rfl (by decide +kernel) (by decide) rfl (Or.inr (Or.inr (Or.inl ⟨rfl, rfl⟩))) dX12_operand_140 ?_
            refine r_iload_n dX12_operand_143 rfl 3 rfl (Or.inl rfl) ?_
            refine r_iconst dX12_operand_144 (by decide) ?_
            refine r_icmp_ge dX12_operand_145 (tgt := 157) (by decide) (fun hc => ?_) (fun hc => ?_)
            · have hr := ifn hr hc
              refine r_iload_n dX12_operand_157 rfl 3 rfl (Or.inl rfl) ?_
              refine r_iconst dX12_operand_158 (by decide) ?_
              refine r_icmp_ne dX12_operand_159 (tgt := 194) (by decide) (fun hc => ?_) (fun hc => ?_)
              · have hr := ifn hr hc
                refine r_aload_n dX12_operand_194 rfl 0 rfl (nl rfl) ?_
                refine r_get 12 12 (o := a0) (w := (0, h140 a0 12)) (T := TX12) (ref := "FollowingRefsModel") rfl (by decide) rfl (by decide) inlX12 (wsl_23 _ (List.mem_of_getElem? (i := 14) rfl)) rfl dX12_operand_195 rfl ?_
                refine r_iconst dX12_operand_198 (by decide) ?_
                refine r_icmp_ne dX12_operand_199 (tgt := 220) (by decide) (fun hc => ?_) (fun hc => ?_)
                · have hr := ifn hr hc
                  refine r_sub [0] (lv' := [(0, (22, a0))]) rfl ?_
                  exact oX12_operand_b220 (K := K) (fun r z => k0 r z) hr hk
                · have hr := ifp hr hc
                  refine r_aload_n dX12_operand_202 rfl 0 rfl (nl rfl) ?_
                  refine r_get 12 15 (o := a0) (w := (0, h140 a0 15)) (T := TX12) (ref := "FollowingRefsModel") rfl (by decide) rfl (by decide) inlX12 (wsl_24 _ (List.mem_of_getElem? (i := 6) rfl)) rfl dX12_operand_203 rfl ?_
                  refine r_bipush dX12_operand_206 (by decide) (by decide) ?_
                  refine r_icmp_lt dX12_operand_208 (tgt := 220) (by decide) (fun hc => ?_) (fun hc => ?_)
                  · have hr := ifp hr hc
                    refine r_sub [0] (lv' := [(0, (22, a0))]) rfl ?_
                    exact oX12_operand_b220 (K := K) (fun r z => k0 r z) hr hk
                  · have hr := ifn hr hc
                    refine r_aload_n dX12_operand_211 rfl 0 rfl (nl rfl) ?_
                    refine r_get 12 15 (o := a0) (w := (0, h140 a0 15)) (T := TX12) (ref := "FollowingRefsModel") rfl (by decide) rfl (by decide) inlX12 (wsl_24 _ (List.mem_of_getElem? (i := 6) rfl)) rfl dX12_operand_212 rfl ?_
                    refine r_bipush dX12_operand_215 (by decide) (by decide) ?_
                    refine r_icmp_le dX12_operand_217 (tgt := 226) (by decide) (fun hc => ?_) (fun hc => ?_)
                    · have hr := ifn hr hc
                      refine r_aload_n dX12_operand_226 rfl 0 rfl (nl rfl) ?_
                      refine r_get 12 15 (o := a0) (w := (0, h140 a0 15)) (T := TX12) (ref := "FollowingRefsModel") rfl (by decide) rfl (by decide) inlX12 (wsl_24 _ (List.mem_of_getElem? (i := 6) rfl)) rfl dX12_operand_227 rfl ?_
                      refine r_istore dX12_operand_230 (Or.inl rfl) (by decide) (lv' := [(4, (0, h140 a0 15)), (0, (22, a0)), (1, (2, l1)), (2, (2, l2)), (3, (0, l3))]) rfl ?_
                      refine r_aload_n dX12_operand_232 rfl 1 rfl (nl rfl) ?_
                      obtain ⟨h233, hg233, hr⟩ := bnd hr
                      refine k_V (ci := 12) (o := a0) (T := TX12) (as := []) (rest := []) (X := (none, h233)) (oX12_next hg233) gX12_next rfl (by decide) rfl (wsl_24 _ (List.mem_of_getElem? (i := 0) rfl)) rfl dX12_operand_233 rfl ?_
                      refine r_aload_n dX12_operand_236 rfl 1 rfl (nl rfl) ?_
                      refine r_get 12 12 (o := a0) (w := (0, h233 a0 12)) (T := TX12) (ref := "FollowingRefsModel") rfl (by decide) rfl (by decide) inlX12 (wsl_23 _ (List.mem_of_getElem? (i := 14) rfl)) rfl dX12_operand_237 rfl ?_
                      refine r_iconst dX12_operand_240 (by decide) ?_
                      refine r_icmp_eq dX12_operand_241 (tgt := 250) (by decide) (fun hc => ?_) (fun hc => ?_)
                      · have hr := ifp hr hc
                        refine r_aload_n dX12_operand_250 rfl 1 rfl (nl rfl) ?_
                        refine r_get 12 15 (o := a0) (w := (0, h233 a0 15)) (T := TX12) (ref := "FollowingRefsModel") rfl (by decide) rfl (by decide) inlX12 (wsl_24 _ (List.mem_of_getElem? (i := 6) rfl)) rfl dX12_operand_251 rfl ?_
                        refine r_bipush dX12_operand_254 (by decide) (by decide) ?_
                        refine r_icmp_le dX12_operand_256 (tgt := 265) (by decide) (fun hc => ?_) (fun hc => ?_)
                        · have hr := ifn hr hc
                          refine r_aload_n dX12_operand_265 rfl 1 rfl (nl rfl) ?_
                          refine r_iload_n dX12_operand_266 rfl 4 rfl (Or.inl rfl) ?_
                          refine r_iload dX12_operand_267 0 rfl (Or.inl rfl) ?_
                          refine r_aload_n dX12_operand_269 rfl 1 rfl (nl rfl) ?_
                          refine r_get 12 15 (o := a0) (w := (0, h233 a0 15)) (T := TX12) (ref := "FollowingRefsModel") rfl (by decide) rfl (by decide) inlX12 (wsl_24 _ (List.mem_of_getElem? (i := 6) rfl)) rfl dX12_operand_270 rfl ?_
                          obtain ⟨h273, hg273, hr⟩ := bnd hr
                          refine k_V (ci := 12) (o := a0) (T := TX12) (as := [(0, l3), (0, h140 a0 15), (0, h233 a0 15)]) (rest := []) (X := (none, h273)) (oX12_code hg273) gX12_code rfl (by decide) rfl (wsl_69 _ (List.mem_of_getElem? (i := 7) rfl)) rfl dX12_operand_273 rfl ?_
                          refine r_aload_n dX12_operand_276 rfl 1 rfl (nl rfl) ?_
                          obtain ⟨h277, hg277, hr⟩ := bnd hr
                          refine k_V (ci := 12) (o := a0) (T := TX12) (as := []) (rest := []) (X := (none, h277)) (oX12_next hg277) gX12_next rfl (by decide) rfl (wsl_24 _ (List.mem_of_getElem? (i := 0) rfl)) rfl dX12_operand_277 rfl ?_
                          refine r_iconst dX12_operand_280 (by decide) ?_
                          refine r_scast 0 (v := (0, 1)) (w := (2, 1)) rfl cz (fun _ => Or.inr rfl) (st' := [(2, 1)]) rfl ?_
                          obtain rfl := Option.some.inj hr
                          exact r_ret dX12_operand_281 rfl (Or.inr ⟨rfl, rfl⟩) (k0 _ hk) ⟨rfl, rfl⟩
                        · have hr := ifp hr hc
                          refine r_aload_n dX12_operand_259 rfl 1 rfl (nl rfl) ?_
                          refine r_iconst dX12_operand_260 (by decide) ?_
                          obtain ⟨q261, hg261, hr⟩ := bnd hr
                          refine k_V (ci := 12) (o := a0) (T := TX12) (as := [(0, 2)]) (rest := []) (X := (some (2, q261.1), q261.2)) (oX12_bad hg261) gX12_bad rfl (by decide) rfl (wsl_25 _ (List.mem_of_getElem? (i := 6) rfl)) rfl dX12_operand_261 rfl ?_
                          obtain rfl := Option.some.inj hr
                          exact r_ret dX12_operand_264 rfl (Or.inr ⟨rfl, rfl⟩) (k0 _ hk) ⟨rfl, rfl⟩
                      · have hr := ifn hr hc
                        refine r_aload_n dX12_operand_244 rfl 1 rfl (nl rfl) ?_
                        refine r_iconst dX12_operand_245 (by decide) ?_
                        obtain ⟨q246, hg246, hr⟩ := bnd hr
                        refine k_V (ci := 12) (o := a0) (T := TX12) (as := [(0, 1)]) (rest := []) (X := (some (2, q246.1), q246.2)) (oX12_bad hg246) gX12_bad rfl (by decide) rfl (wsl_25 _ (List.mem_of_getElem? (i := 6) rfl)) rfl dX12_operand_246 rfl ?_
                        obtain rfl := Option.some.inj hr
                        exact r_ret dX12_operand_249 rfl (Or.inr ⟨rfl, rfl⟩) (k0 _ hk) ⟨rfl, rfl⟩
                    · have hr := ifp hr hc
                      refine r_sub [0] (lv' := [(0, (22, a0))]) rfl ?_
                      exact oX12_operand_b220 (K := K) (fun r z => k0 r z) hr hk
              · have hr := ifp hr hc
                refine r_aload_n dX12_operand_162 rfl 0 rfl (nl rfl) ?_
                refine r_iconst dX12_operand_163 (by decide) ?_
                refine r_aload_n dX12_operand_164 rfl 0 rfl (nl rfl) ?_
                refine r_get 12 6 (o := a0) (w := (50, h140 a0 6)) (T := TX12) (ref := "FollowingRefsModel") rfl (by decide) rfl (by decide) inlX12 (wsl_7 _ (List.mem_of_getElem? (i := 8) rfl)) rfl dX12_operand_165 rfl ?_
                refine r_iconst dX12_operand_168 (by decide) ?_
                obtain ⟨v169, hg169, hr⟩ := bnd hr
                refine r_iald dX12_operand_169 hg169 ?_
                obtain ⟨q170, hg170, hr⟩ := bnd hr
                refine k_V (ci := 12) (o := a0) (T := TX12) (as := [(0, 0), (0, v169)]) (rest := []) (X := (some (2, q170.1), q170.2)) (oX12_looksAt hg170) gX12_looksAt rfl (by decide) rfl (wsl_26 _ (List.mem_of_getElem? (i := 13) rfl)) rfl dX12_operand_170 rfl ?_
                refine r_scast 0 (v := (2, q170.1)) (w := (0, q170.1)) rfl zc hTz (st' := [(0, q170.1)]) rfl ?_
                refine r_if_ne dX12_operand_173 (tgt := 178) (by decide) (fun hc => ?_) (fun hc => ?_)
                · have hr := ifn hr hc
                  refine r_aload_n dX12_operand_178 rfl 0 rfl (nl rfl) ?_
                  refine r_iload_n dX12_operand_179 rfl 3 rfl (Or.inl rfl) ?_
                  refine r_iconst dX12_operand_180 (by decide) ?_
                  refine r_aload_n dX12_operand_181 rfl 0 rfl (nl rfl) ?_
                  refine r_get 12 19 (o := a0) (w := (0, q170.2 a0 19)) (T := TX12) (ref := "FollowingRefsModel") rfl (by decide) rfl (by decide) inlX12 (wsl_26 _ (List.mem_of_getElem? (i := 2) rfl)) rfl dX12_operand_182 rfl ?_
                  obtain ⟨h185, hg185, hr⟩ := bnd hr
                  refine k_V (ci := 12) (o := a0) (T := TX12) (as := [(0, l3), (0, 0), (0, q170.2 a0 19)]) (rest := []) (X := (none, h185)) (oX12_code hg185) gX12_code rfl (by decide) rfl (wsl_69 _ (List.mem_of_getElem? (i := 7) rfl)) rfl dX12_operand_185 rfl ?_
                  refine r_aload_n dX12_operand_188 rfl 0 rfl (nl rfl) ?_
                  obtain ⟨h189, hg189, hr⟩ := bnd hr
                  refine k_V (ci := 12) (o := a0) (T := TX12) (as := []) (rest := []) (X := (none, h189)) (oX12_next hg189) gX12_next rfl (by decide) rfl (wsl_24 _ (List.mem_of_getElem? (i := 0) rfl)) rfl dX12_operand_189 rfl ?_
                  refine r_iconst dX12_operand_192 (by decide) ?_
                  refine r_scast 0 (v := (0, 1)) (w := (2, 1)) rfl cz (fun _ => Or.inr rfl) (st' := [(2, 1)]) rfl ?_
                  obtain rfl := Option.some.inj hr
                  exact r_ret dX12_operand_193 rfl (Or.inr ⟨rfl, rfl⟩) (k0 _ hk) ⟨rfl, rfl⟩
                · have hr := ifp hr hc
                  refine r_iconst dX12_operand_176 (by decide) ?_
                  refine r_scast 0 (v := (0, 0)) (w := (2, 0)) rfl cz (fun _ => Or.inl rfl) (st' := [(2, 0)]) rfl ?_
                  obtain rfl := Option.some.inj hr
                  exact r_ret dX12_operand_177 rfl (Or.inr ⟨rfl, rfl⟩) (k0 _ hk) ⟨rfl, rfl⟩
            · have hr := ifp hr hc
              refine r_aload_n dX12_operand_148 rfl 0 rfl (nl rfl) ?_
              refine r_iload_n dX12_operand_149 rfl 3 rfl (Or.inl rfl) ?_
              refine r_iconst dX12_operand_150 (by decide) ?_
              refine r_iconst dX12_operand_151 (by decide) ?_
              obtain ⟨h152, hg152, hr⟩ := bnd hr
              refine k_V (ci := 12) (o := a0) (T := TX12) (as := [(0, l3), (0, 0), (0, 0)]) (rest := []) (X := (none, h152)) (oX12_code hg152) gX12_code rfl (by decide) rfl (wsl_69 _ (List.mem_of_getElem? (i := 7) rfl)) rfl dX12_operand_152 rfl ?_
              refine r_iconst dX12_operand_155 (by decide) ?_
              refine r_scast 0 (v := (0, 1)) (w := (2, 1)) rfl cz (fun _ => Or.inr rfl) (st' := [(2, 1)]) rfl ?_
              obtain rfl := Option.some.inj hr
              exact r_ret dX12_operand_156 rfl (Or.inr ⟨rfl, rfl⟩) (k0 _ hk) ⟨rfl, rfl⟩
          · have hr := ifn hr hc
            refine r_sub [0, 1] (lv' := [(0, (22, a0)), (1, (2, l1))]) rfl ?_
            exact oX12_operand_b96 (K := K) (fun r z => k0 r z) hr hk
      · have hr := ifp hr hc
        refine r_sub [0] (lv' := [(0, (22, a0))]) rfl ?_
        exact oX12_operand_b68 (K := K) (fun r z => k0 r z) hr hk
  · have hr := ifp hr hc
    refine r_aload_n dX12_operand_44 rfl 0 rfl (nl rfl) ?_
    refine r_iconst dX12_operand_45 (by decide) ?_
    obtain ⟨q46, hg46, hr⟩ := bnd hr
    refine k_V (ci := 12) (o := a0) (T := TX12) (as := [(0, 3)]) (rest := []) (X := (some (2, q46.1), q46.2)) (oX12_bad hg46) gX12_bad rfl (by decide) rfl (wsl_25 _ (List.mem_of_getElem? (i := 6) rfl)) rfl dX12_operand_46 rfl ?_
    obtain rfl := Option.some.inj hr
    exact r_ret dX12_operand_49 rfl (Or.inr ⟨rfl, rfl⟩) (k0 _ hk) ⟨rfl, rfl⟩
set_option maxRecDepth 100000 in
set_option maxHeartbeats 4000000 in
theorem oX12_operand_b0 {a0 : Int} {K : Int × hH → Prop} (k0 : ∀ r, K (r) → x = (some (2, r.1), r.2)) {r : Int × hH} (hr : fX12_operand h a0 = some r) (hk : K r) : Wq p l e R s m args below meth c D G A H0 true n0 M_X12_operand x 0 0 0 [(0, (22, a0))] [] h := by
  unfold fX12_operand at hr
  refine r_aload_n dX12_operand_0 rfl 0 rfl (nl rfl) ?_
  refine r_ldc2' (v := 7237492) dX12_operand_1 (by decide) (wsl_9 _ (List.mem_of_getElem? (i := 15) rfl)) ?_
  obtain ⟨r4, hg4, hr⟩ := bnd hr
  refine k_V (ci := 12) (o := a0) (T := TX12) (as := [(1, 7237492)]) (rest := []) (X := (some (2, r4), h)) (oX12_isWord hg4) gX12_isWord rfl (by decide) rfl (wsl_24 _ (List.mem_of_getElem? (i := 22) rfl)) rfl dX12_operand_4 rfl ?_
  refine r_istore_n dX12_operand_7 rfl (Or.inr rfl) (by decide) (lv' := [(1, (2, r4)), (0, (22, a0))]) rfl ?_
  refine r_aload_n dX12_operand_8 rfl 1 rfl (nl rfl) ?_
  refine r_bipush dX12_operand_9 (by decide) (by decide) ?_
  obtain ⟨r11, hg11, hr⟩ := bnd hr
  refine k_V (ci := 12) (o := a0) (T := TX12) (as := [(0, 40)]) (rest := []) (X := (some (2, r11), h)) (oX12_isSign hg11) gX12_isSign rfl (by decide) rfl (wsl_25 _ (List.mem_of_getElem? (i := 18) rfl)) rfl dX12_operand_11 rfl ?_
  refine r_istore_n dX12_operand_14 rfl (Or.inr rfl) (by decide) (lv' := [(2, (2, r11)), (1, (2, r4)), (0, (22, a0))]) rfl ?_
  refine r_aload_n dX12_operand_15 rfl 2 rfl (nl rfl) ?_
  obtain ⟨r16, hg16, hr⟩ := bnd hr
  refine k_V (ci := 12) (o := a0) (T := TX12) (as := []) (rest := []) (X := (some (0, r16), h)) (oX12_leafOf hg16) gX12_leafOf rfl (by decide) rfl (wsl_69 _ (List.mem_of_getElem? (i := 23) rfl)) rfl dX12_operand_16 rfl ?_
  refine r_istore_n dX12_operand_19 rfl (Or.inl rfl) (by decide) (lv' := [(3, (0, r16)), (2, (2, r11)), (1, (2, r4)), (0, (22, a0))]) rfl ?_
  refine r_iload_n dX12_operand_20 rfl 2 rfl (Or.inr rfl) ?_
  refine r_scast 0 (v := (2, r4)) (w := (0, r4)) rfl zc hTz (st' := [(0, r4)]) rfl ?_
  refine r_if_ne dX12_operand_21 (tgt := 38) (by decide) (fun hc => ?_) (fun hc => ?_)
  · have hr := ifn hr hc
    refine r_sub [3, 2, 1, 0] (lv' := [(0, (22, a0)), (1, (2, r4)), (2, (2, r11)), (3, (0, r16))]) rfl ?_
    exact oX12_operand_b38 (K := K) (fun r z => k0 r z) hr hk
  · have hr := ifp hr hc
    refine r_iload_n dX12_operand_24 rfl 1 rfl (Or.inr rfl) ?_
    refine r_scast 0 (v := (2, r11)) (w := (0, r11)) rfl zc hTz (st' := [(0, r11)]) rfl ?_
    refine r_if_ne dX12_operand_25 (tgt := 38) (by decide) (fun hc => ?_) (fun hc => ?_)
    · have hr := ifn hr hc
      refine r_sub [3, 2, 1, 0] (lv' := [(0, (22, a0)), (1, (2, r4)), (2, (2, r11)), (3, (0, r16))]) rfl ?_
      exact oX12_operand_b38 (K := K) (fun r z => k0 r z) hr hk
    · have hr := ifp hr hc
      refine r_iload_n dX12_operand_28 rfl 0 rfl (Or.inl rfl) ?_
      refine r_if_ge dX12_operand_29 (tgt := 38) (by decide) (fun hc => ?_) (fun hc => ?_)
      · have hr := ifn hr hc
        refine r_sub [3, 2, 1, 0] (lv' := [(0, (22, a0)), (1, (2, r4)), (2, (2, r11)), (3, (0, r16))]) rfl ?_
        exact oX12_operand_b38 (K := K) (fun r z => k0 r z) hr hk
      · have hr := ifp hr hc
        refine r_aload_n dX12_operand_32 rfl 3 rfl (nl rfl) ?_
        refine r_iconst dX12_operand_33 (by decide) ?_
        obtain ⟨q34, hg34, hr⟩ := bnd hr
        refine k_V (ci := 12) (o := a0) (T := TX12) (as := [(0, 1)]) (rest := []) (X := (some (2, q34.1), q34.2)) (oX12_bad hg34) gX12_bad rfl (by decide) rfl (wsl_25 _ (List.mem_of_getElem? (i := 6) rfl)) rfl dX12_operand_34 rfl ?_
        obtain rfl := Option.some.inj hr
        exact r_ret dX12_operand_37 rfl (Or.inr ⟨rfl, rfl⟩) (k0 _ hk) ⟨rfl, rfl⟩
end M_X12_operand
theorem oX12_operand {l : Launch} {D : va_G} {G : gG} {h : hH} {a0 : Int} {r : Int × hH} (hr : fX12_operand h a0 = some r) : Ctr l D G true yX12_operand M_X12_operand [(22, a0)] h (some (2, r.1), r.2) :=
  Ctr_of (by decide) rfl (fun z => by cases z) (nl rfl) (fun {p e R s m args below meth c A H0} => by
    exact oX12_operand_b0 (K := fun z9 => z9 = r) (fun r9 z => by rw [z]) hr rfl)
/-! X12_behind -/
theorem dX12_behind_0 : decode cX12_behind 0 = .ok (.aload_n 0, 1) := by decide +kernel
theorem dX12_behind_1 : decode cX12_behind 1 = .ok (.invokevirtual 576, 3) := by decide +kernel
theorem dX12_behind_4 : decode cX12_behind 4 = .ok (.aload_n 0, 1) := by decide +kernel
theorem dX12_behind_5 : decode cX12_behind 5 = .ok (.ldc2_w 161, 3) := by decide +kernel
theorem dX12_behind_8 : decode cX12_behind 8 = .ok (.invokevirtual 248, 3) := by decide +kernel
theorem dX12_behind_11 : decode cX12_behind 11 = .ok (.ifCond .ne 13, 3) := by decide +kernel
theorem dX12_behind_14 : decode cX12_behind 14 = .ok (.aload_n 0, 1) := by decide +kernel
theorem dX12_behind_15 : decode cX12_behind 15 = .ok (.ldc2_w 173, 3) := by decide +kernel
theorem dX12_behind_18 : decode cX12_behind 18 = .ok (.invokevirtual 248, 3) := by decide +kernel
theorem dX12_behind_21 : decode cX12_behind 21 = .ok (.ifCond .eq 71, 3) := by decide +kernel
theorem dX12_behind_24 : decode cX12_behind 24 = .ok (.aload_n 0, 1) := by decide +kernel
theorem dX12_behind_25 : decode cX12_behind 25 = .ok (.aload_n 0, 1) := by decide +kernel
theorem dX12_behind_26 : decode cX12_behind 26 = .ok (.ldc2_w 161, 3) := by decide +kernel
theorem dX12_behind_29 : decode cX12_behind 29 = .ok (.invokevirtual 248, 3) := by decide +kernel
theorem dX12_behind_32 : decode cX12_behind 32 = .ok (.ifCond .eq 8, 3) := by decide +kernel
theorem dX12_behind_35 : decode cX12_behind 35 = .ok (.bipush 21, 2) := by decide +kernel
theorem dX12_behind_37 : decode cX12_behind 37 = .ok (.goto 5, 3) := by decide +kernel
theorem dX12_behind_40 : decode cX12_behind 40 = .ok (.bipush 22, 2) := by decide +kernel
theorem dX12_behind_42 : decode cX12_behind 42 = .ok (.invokevirtual 579, 3) := by decide +kernel
theorem dX12_behind_45 : decode cX12_behind 45 = .ok (.aload_n 0, 1) := by decide +kernel
theorem dX12_behind_46 : decode cX12_behind 46 = .ok (.getfield 113, 3) := by decide +kernel
theorem dX12_behind_49 : decode cX12_behind 49 = .ok (.aload_n 0, 1) := by decide +kernel
theorem dX12_behind_50 : decode cX12_behind 50 = .ok (.getfield 555, 3) := by decide +kernel
theorem dX12_behind_53 : decode cX12_behind 53 = .ok (.aload_n 0, 1) := by decide +kernel
theorem dX12_behind_54 : decode cX12_behind 54 = .ok (.ldc2_w 161, 3) := by decide +kernel
theorem dX12_behind_57 : decode cX12_behind 57 = .ok (.invokevirtual 248, 3) := by decide +kernel
theorem dX12_behind_60 : decode cX12_behind 60 = .ok (.ifCond .eq 8, 3) := by decide +kernel
theorem dX12_behind_63 : decode cX12_behind 63 = .ok (.bipush 21, 2) := by decide +kernel
theorem dX12_behind_65 : decode cX12_behind 65 = .ok (.goto 5, 3) := by decide +kernel
theorem dX12_behind_68 : decode cX12_behind 68 = .ok (.bipush 22, 2) := by decide +kernel
theorem dX12_behind_70 : decode cX12_behind 70 = .ok (.iastore, 1) := by decide +kernel
theorem dX12_behind_71 : decode cX12_behind 71 = .ok (.aload_n 0, 1) := by decide +kernel
theorem dX12_behind_72 : decode cX12_behind 72 = .ok (.dup, 1) := by decide +kernel
theorem dX12_behind_73 : decode cX12_behind 73 = .ok (.getfield 555, 3) := by decide +kernel
theorem dX12_behind_76 : decode cX12_behind 76 = .ok (.iconst 1, 1) := by decide +kernel
theorem dX12_behind_77 : decode cX12_behind 77 = .ok (.iadd, 1) := by decide +kernel
theorem dX12_behind_78 : decode cX12_behind 78 = .ok (.putfield 555, 3) := by decide +kernel
theorem dX12_behind_81 : decode cX12_behind 81 = .ok (.aload_n 0, 1) := by decide +kernel
theorem dX12_behind_82 : decode cX12_behind 82 = .ok (.iconst 0, 1) := by decide +kernel
theorem dX12_behind_83 : decode cX12_behind 83 = .ok (.putfield 573, 3) := by decide +kernel
theorem dX12_behind_86 : decode cX12_behind 86 = .ok (.aload_n 0, 1) := by decide +kernel
theorem dX12_behind_87 : decode cX12_behind 87 = .ok (.invokevirtual 226, 3) := by decide +kernel
theorem dX12_behind_90 : decode cX12_behind 90 = .ok (.iconst 1, 1) := by decide +kernel
theorem dX12_behind_91 : decode cX12_behind 91 = .ok (.ireturn, 1) := by decide +kernel
theorem dX12_behind_92 : decode cX12_behind 92 = .ok (.aload_n 0, 1) := by decide +kernel
theorem dX12_behind_93 : decode cX12_behind 93 = .ok (.bipush 22, 2) := by decide +kernel
theorem dX12_behind_95 : decode cX12_behind 95 = .ok (.invokevirtual 579, 3) := by decide +kernel
theorem dX12_behind_98 : decode cX12_behind 98 = .ok (.aload_n 0, 1) := by decide +kernel
theorem dX12_behind_99 : decode cX12_behind 99 = .ok (.bipush 41, 2) := by decide +kernel
theorem dX12_behind_101 : decode cX12_behind 101 = .ok (.invokevirtual 220, 3) := by decide +kernel
theorem dX12_behind_104 : decode cX12_behind 104 = .ok (.ifCond .eq 10, 3) := by decide +kernel
theorem dX12_behind_107 : decode cX12_behind 107 = .ok (.aload_n 0, 1) := by decide +kernel
theorem dX12_behind_108 : decode cX12_behind 108 = .ok (.getfield 555, 3) := by decide +kernel
theorem dX12_behind_111 : decode cX12_behind 111 = .ok (.ifCond .ne 9, 3) := by decide +kernel
theorem dX12_behind_114 : decode cX12_behind 114 = .ok (.aload_n 0, 1) := by decide +kernel
theorem dX12_behind_115 : decode cX12_behind 115 = .ok (.iconst 1, 1) := by decide +kernel
theorem dX12_behind_116 : decode cX12_behind 116 = .ok (.invokevirtual 223, 3) := by decide +kernel
theorem dX12_behind_119 : decode cX12_behind 119 = .ok (.ireturn, 1) := by decide +kernel
theorem dX12_behind_120 : decode cX12_behind 120 = .ok (.aload_n 0, 1) := by decide +kernel
theorem dX12_behind_121 : decode cX12_behind 121 = .ok (.dup, 1) := by decide +kernel
theorem dX12_behind_122 : decode cX12_behind 122 = .ok (.getfield 555, 3) := by decide +kernel
theorem dX12_behind_125 : decode cX12_behind 125 = .ok (.iconst 1, 1) := by decide +kernel
theorem dX12_behind_126 : decode cX12_behind 126 = .ok (.isub, 1) := by decide +kernel
theorem dX12_behind_127 : decode cX12_behind 127 = .ok (.putfield 555, 3) := by decide +kernel
theorem dX12_behind_130 : decode cX12_behind 130 = .ok (.aload_n 0, 1) := by decide +kernel
theorem dX12_behind_131 : decode cX12_behind 131 = .ok (.dup, 1) := by decide +kernel
theorem dX12_behind_132 : decode cX12_behind 132 = .ok (.getfield 561, 3) := by decide +kernel
theorem dX12_behind_135 : decode cX12_behind 135 = .ok (.iconst 1, 1) := by decide +kernel
theorem dX12_behind_136 : decode cX12_behind 136 = .ok (.isub, 1) := by decide +kernel
theorem dX12_behind_137 : decode cX12_behind 137 = .ok (.putfield 561, 3) := by decide +kernel
theorem dX12_behind_140 : decode cX12_behind 140 = .ok (.aload_n 0, 1) := by decide +kernel
theorem dX12_behind_141 : decode cX12_behind 141 = .ok (.invokevirtual 226, 3) := by decide +kernel
theorem dX12_behind_144 : decode cX12_behind 144 = .ok (.iconst 1, 1) := by decide +kernel
theorem dX12_behind_145 : decode cX12_behind 145 = .ok (.ireturn, 1) := by decide +kernel
abbrev M_X12_behind : mM := (cX12_behind, 1, RX12, some .boolean, false, 2, 44, 0, 0)
theorem gX12_behind : cI yX12_behind M_X12_behind 0 := ⟨(wsl_69 _ (List.mem_of_getElem? (i := 16) rfl)), (wsl_69 _ (List.mem_of_getElem? (i := 17) rfl)), (wsl_1 _ (List.mem_of_getElem? (i := 5) rfl)), (wsl_69 _ (List.mem_of_getElem? (i := 18) rfl)), by decide +kernel⟩
noncomputable def fX12_behind_b114 (h : hH) (a0 : Int) : Option (Int × hH) :=
  (fX12_bad h a0 1).bind fun q116 =>
  some (q116.1, q116.2)
noncomputable def fX12_behind_b70 (h : hH) (a0 s0 s1 s2 : Int) : Option (Int × hH) :=
  (aput h s2 s1 s0).bind fun h70 =>
  (pput h70 a0 59 (w32 ((h70 a0 59) + 1))).bind fun h78 =>
  (pput h78 a0 61 0).bind fun h83 =>
  (fX12_next h83 a0).bind fun h87 =>
  some (1, h87)
noncomputable def fX12_behind_b42 (h : hH) (a0 s0 s1 : Int) : Option (Int × hH) :=
  (fX12_joins h s1 s0).bind fun h42 =>
  (fX12_isWord h42 a0 6385252).bind fun r57 =>
  if r57 = 0 then
    fX12_behind_b70 h42 a0 22 (h42 a0 59) (h42 a0 56)
  else
    fX12_behind_b70 h42 a0 21 (h42 a0 59) (h42 a0 56)
noncomputable def fX12_behind_b24 (h : hH) (a0 : Int) : Option (Int × hH) :=
  (fX12_isWord h a0 6385252).bind fun r29 =>
  if r29 = 0 then
    fX12_behind_b42 h a0 22 a0
  else
    fX12_behind_b42 h a0 21 a0
noncomputable def fX12_behind (h : hH) (a0 : Int) : Option (Int × hH) :=
  (fX12_nots h a0).bind fun h1 =>
  (fX12_isWord h1 a0 6385252).bind fun r8 =>
  if r8 = 0 then
    (fX12_isWord h1 a0 28530).bind fun r18 =>
    if r18 = 0 then
      (fX12_joins h1 a0 22).bind fun h95 =>
      (fX12_isSign h95 a0 41).bind fun r101 =>
      if r101 = 0 then
        fX12_behind_b114 h95 a0
      else
        if h95 a0 59 = 0 then
          fX12_behind_b114 h95 a0
        else
          (pput h95 a0 59 (w32 ((h95 a0 59) - 1))).bind fun h127 =>
          (pput h127 a0 60 (w32 ((h127 a0 60) - 1))).bind fun h137 =>
          (fX12_next h137 a0).bind fun h141 =>
          some (1, h141)
    else
      fX12_behind_b24 h1 a0
  else
    fX12_behind_b24 h1 a0
section M_X12_behind
variable {p : Program} {l : Launch} {e : Env} {R : Room} {s : State} {m : MethodId} {args : Array Value} {below : List Frame} {meth : Method} {c : Code} {D : va_G} {G : gG} {A : Nat → Prop} {H0 : Heap} {n0 : Int} {x : Option vV × hH} {h : hH}
set_option maxRecDepth 100000 in
set_option maxHeartbeats 4000000 in
theorem oX12_behind_b114 {a0 : Int} {K : Int × hH → Prop} (k0 : ∀ r, K (r) → x = (some (2, r.1), r.2)) {r : Int × hH} (hr : fX12_behind_b114 h a0 = some r) (hk : K r) : Wq p l e R s m args below meth c D G A H0 true n0 M_X12_behind x 0 0 114 [(0, (22, a0))] [] h := by
  unfold fX12_behind_b114 at hr
  refine r_aload_n dX12_behind_114 rfl 0 rfl (nl rfl) ?_
  refine r_iconst dX12_behind_115 (by decide) ?_
  obtain ⟨q116, hg116, hr⟩ := bnd hr
  refine k_V (ci := 12) (o := a0) (T := TX12) (as := [(0, 1)]) (rest := []) (X := (some (2, q116.1), q116.2)) (oX12_bad hg116) gX12_bad rfl (by decide) rfl (wsl_25 _ (List.mem_of_getElem? (i := 6) rfl)) rfl dX12_behind_116 rfl ?_
  obtain rfl := Option.some.inj hr
  exact r_ret dX12_behind_119 rfl (Or.inr ⟨rfl, rfl⟩) (k0 _ hk) ⟨rfl, rfl⟩
set_option maxRecDepth 100000 in
set_option maxHeartbeats 4000000 in
theorem oX12_behind_b70 {a0 s0 s1 s2 : Int} {K : Int × hH → Prop} (k0 : ∀ r, K (r) → x = (some (2, r.1), r.2)) {r : Int × hH} (hr : fX12_behind_b70 h a0 s0 s1 s2 = some r) (hk : K r) : Wq p l e R s m args below meth c D G A H0 true n0 M_X12_behind x 0 0 70 [(0, (22, a0))] [(0, s0), (0, s1), (50, s2)] h := by
  unfold fX12_behind_b70 at hr
  obtain ⟨h70, hg70, hr⟩ := bnd hr
  refine r_iast dX12_behind_70 hg70 ?_
  refine r_aload_n dX12_behind_71 rfl 0 rfl (nl rfl) ?_
  refine r_dup dX12_behind_72 (Nat.ne_of_beq_eq_false rfl) ?_
  refine r_get 12 59 (o := a0) (w := (0, h70 a0 59)) (T := TX12) (ref := "FollowingRefsModel") rfl (by decide) rfl (by decide) inlX12 (wsl_69 _ (List.mem_of_getElem? (i := 0) rfl)) rfl dX12_behind_73 rfl ?_
  refine r_iconst dX12_behind_76 (by decide) ?_
  refine r_iadd dX12_behind_77 ?_
  obtain ⟨h78, hg78, hr⟩ := bnd hr
  refine r_put' 12 59 (t := 0) (ref := "FollowingRefsModel") hg78 rfl tyX12 tyX12_ok nmX12 rfl (by decide) rfl (by decide) inlX12 (wsl_69 _ (List.mem_of_getElem? (i := 0) rfl)) rfl rfl (by decide +kernel) (by decide) rfl (Or.inl ⟨rfl, rfl⟩) dX12_behind_78 ?_
  refine r_aload_n dX12_behind_81 rfl 0 rfl (nl rfl) ?_
  refine r_iconst dX12_behind_82 (by decide) ?_
  refine r_scast 0 (v := (0, 0)) (w := (2, 0)) rfl cz (fun _ => Or.inl rfl) (st' := [(2, 0), (22, a0)]) rfl ?_
  obtain ⟨h83, hg83, hr⟩ := bnd hr
  refine r_put' 12 61 (t := 2) (ref := "FollowingRefsModel") hg83 rfl tyX12 tyX12_ok nmX12 rfl (by decide) rfl (by decide) inlX12 (wsl_69 _ (List.mem_of_getElem? (i := 2) rfl)) rfl rfl (by decide +kernel) (by decide) rfl (Or.inr (Or.inr (Or.inl ⟨rfl, rfl⟩))) dX12_behind_83 ?_
  refine r_aload_n dX12_behind_86 rfl 0 rfl (nl rfl) ?_
  obtain ⟨h87, hg87, hr⟩ := bnd hr
  refine k_V (ci := 12) (o := a0) (T := TX12) (as := []) (rest := []) (X := (none, h87)) (oX12_next hg87) gX12_next rfl (by decide) rfl (wsl_24 _ (List.mem_of_getElem? (i := 0) rfl)) rfl dX12_behind_87 rfl ?_
  refine r_iconst dX12_behind_90 (by decide) ?_
  refine r_scast 0 (v := (0, 1)) (w := (2, 1)) rfl cz (fun _ => Or.inr rfl) (st' := [(2, 1)]) rfl ?_
  obtain rfl := Option.some.inj hr
  exact r_ret dX12_behind_91 rfl (Or.inr ⟨rfl, rfl⟩) (k0 _ hk) ⟨rfl, rfl⟩
set_option maxRecDepth 100000 in
set_option maxHeartbeats 4000000 in
theorem oX12_behind_b42 {a0 s0 s1 : Int} {K : Int × hH → Prop} (k0 : ∀ r, K (r) → x = (some (2, r.1), r.2)) {r : Int × hH} (hr : fX12_behind_b42 h a0 s0 s1 = some r) (hk : K r) : Wq p l e R s m args below meth c D G A H0 true n0 M_X12_behind x 0 0 42 [(0, (22, a0))] [(0, s0), (22, s1)] h := by
  unfold fX12_behind_b42 at hr
  obtain ⟨h42, hg42, hr⟩ := bnd hr
  refine k_V (ci := 12) (o := s1) (T := TX12) (as := [(0, s0)]) (rest := []) (X := (none, h42)) (oX12_joins hg42) gX12_joins rfl (by decide) rfl (wsl_69 _ (List.mem_of_getElem? (i := 11) rfl)) rfl dX12_behind_42 rfl ?_
  refine r_aload_n dX12_behind_45 rfl 0 rfl (nl rfl) ?_
  refine r_get 12 56 (o := a0) (w := (50, h42 a0 56)) (T := TX12) (ref := "FollowingRefsModel") rfl (by decide) rfl (by decide) inlX12 (wsl_8 _ (List.mem_of_getElem? (i := 10) rfl)) rfl dX12_behind_46 rfl ?_
  refine r_aload_n dX12_behind_49 rfl 0 rfl (nl rfl) ?_
  refine r_get 12 59 (o := a0) (w := (0, h42 a0 59)) (T := TX12) (ref := "FollowingRefsModel") rfl (by decide) rfl (by decide) inlX12 (wsl_69 _ (List.mem_of_getElem? (i := 0) rfl)) rfl dX12_behind_50 rfl ?_
  refine r_aload_n dX12_behind_53 rfl 0 rfl (nl rfl) ?_
  refine r_ldc2' (v := 6385252) dX12_behind_54 (by decide) (wsl_9 _ (List.mem_of_getElem? (i := 8) rfl)) ?_
  obtain ⟨r57, hg57, hr⟩ := bnd hr
  refine k_V (ci := 12) (o := a0) (T := TX12) (as := [(1, 6385252)]) (rest := [(0, h42 a0 59), (50, h42 a0 56)]) (X := (some (2, r57), h42)) (oX12_isWord hg57) gX12_isWord rfl (by decide) rfl (wsl_24 _ (List.mem_of_getElem? (i := 22) rfl)) rfl dX12_behind_57 rfl ?_
  refine r_scast 0 (v := (2, r57)) (w := (0, r57)) rfl zc hTz (st' := [(0, r57), (0, h42 a0 59), (50, h42 a0 56)]) rfl ?_
  refine r_if_eq dX12_behind_60 (tgt := 68) (by decide) (fun hc => ?_) (fun hc => ?_)
  · have hr := ifp hr hc
    refine r_bipush dX12_behind_68 (by decide) (by decide) ?_
    exact oX12_behind_b70 (K := K) (fun r z => k0 r z) hr hk
  · have hr := ifn hr hc
    refine r_bipush dX12_behind_63 (by decide) (by decide) ?_
    refine r_goto dX12_behind_65 (tgt := 70) (by decide) ?_
    exact oX12_behind_b70 (K := K) (fun r z => k0 r z) hr hk
set_option maxRecDepth 100000 in
set_option maxHeartbeats 4000000 in
theorem oX12_behind_b24 {a0 : Int} {K : Int × hH → Prop} (k0 : ∀ r, K (r) → x = (some (2, r.1), r.2)) {r : Int × hH} (hr : fX12_behind_b24 h a0 = some r) (hk : K r) : Wq p l e R s m args below meth c D G A H0 true n0 M_X12_behind x 0 0 24 [(0, (22, a0))] [] h := by
  unfold fX12_behind_b24 at hr
  refine r_aload_n dX12_behind_24 rfl 0 rfl (nl rfl) ?_
  refine r_aload_n dX12_behind_25 rfl 0 rfl (nl rfl) ?_
  refine r_ldc2' (v := 6385252) dX12_behind_26 (by decide) (wsl_9 _ (List.mem_of_getElem? (i := 8) rfl)) ?_
  obtain ⟨r29, hg29, hr⟩ := bnd hr
  refine k_V (ci := 12) (o := a0) (T := TX12) (as := [(1, 6385252)]) (rest := [(22, a0)]) (X := (some (2, r29), h)) (oX12_isWord hg29) gX12_isWord rfl (by decide) rfl (wsl_24 _ (List.mem_of_getElem? (i := 22) rfl)) rfl dX12_behind_29 rfl ?_
  refine r_scast 0 (v := (2, r29)) (w := (0, r29)) rfl zc hTz (st' := [(0, r29), (22, a0)]) rfl ?_
  refine r_if_eq dX12_behind_32 (tgt := 40) (by decide) (fun hc => ?_) (fun hc => ?_)
  · have hr := ifp hr hc
    refine r_bipush dX12_behind_40 (by decide) (by decide) ?_
    exact oX12_behind_b42 (K := K) (fun r z => k0 r z) hr hk
  · have hr := ifn hr hc
    refine r_bipush dX12_behind_35 (by decide) (by decide) ?_
    refine r_goto dX12_behind_37 (tgt := 42) (by decide) ?_
    exact oX12_behind_b42 (K := K) (fun r z => k0 r z) hr hk
set_option maxRecDepth 100000 in
set_option maxHeartbeats 4000000 in
theorem oX12_behind_b0 {a0 : Int} {K : Int × hH → Prop} (k0 : ∀ r, K (r) → x = (some (2, r.1), r.2)) {r : Int × hH} (hr : fX12_behind h a0 = some r) (hk : K r) : Wq p l e R s m args below meth c D G A H0 true n0 M_X12_behind x 0 0 0 [(0, (22, a0))] [] h := by
  unfold fX12_behind at hr
  refine r_aload_n dX12_behind_0 rfl 0 rfl (nl rfl) ?_
  obtain ⟨h1, hg1, hr⟩ := bnd hr
  refine k_V (ci := 12) (o := a0) (T := TX12) (as := []) (rest := []) (X := (none, h1)) (oX12_nots hg1) gX12_nots rfl (by decide) rfl (wsl_69 _ (List.mem_of_getElem? (i := 3) rfl)) rfl dX12_behind_1 rfl ?_
  refine r_aload_n dX12_behind_4 rfl 0 rfl (nl rfl) ?_
  refine r_ldc2' (v := 6385252) dX12_behind_5 (by decide) (wsl_9 _ (List.mem_of_getElem? (i := 8) rfl)) ?_
  obtain ⟨r8, hg8, hr⟩ := bnd hr
  refine k_V (ci := 12) (o := a0) (T := TX12) (as := [(1, 6385252)]) (rest := []) (X := (some (2, r8), h1)) (oX12_isWord hg8) gX12_isWord rfl (by decide) rfl (wsl_24 _ (List.mem_of_getElem? (i := 22) rfl)) rfl dX12_behind_8 rfl ?_
  refine r_scast 0 (v := (2, r8)) (w := (0, r8)) rfl zc hTz (st' := [(0, r8)]) rfl ?_
  refine r_if_ne dX12_behind_11 (tgt := 24) (by decide) (fun hc => ?_) (fun hc => ?_)
  · have hr := ifn hr hc
    exact oX12_behind_b24 (K := K) (fun r z => k0 r z) hr hk
  · have hr := ifp hr hc
    refine r_aload_n dX12_behind_14 rfl 0 rfl (nl rfl) ?_
    refine r_ldc2' (v := 28530) dX12_behind_15 (by decide) (wsl_9 _ (List.mem_of_getElem? (i := 14) rfl)) ?_
    obtain ⟨r18, hg18, hr⟩ := bnd hr
    refine k_V (ci := 12) (o := a0) (T := TX12) (as := [(1, 28530)]) (rest := []) (X := (some (2, r18), h1)) (oX12_isWord hg18) gX12_isWord rfl (by decide) rfl (wsl_24 _ (List.mem_of_getElem? (i := 22) rfl)) rfl dX12_behind_18 rfl ?_
    refine r_scast 0 (v := (2, r18)) (w := (0, r18)) rfl zc hTz (st' := [(0, r18)]) rfl ?_
    refine r_if_eq dX12_behind_21 (tgt := 92) (by decide) (fun hc => ?_) (fun hc => ?_)
    · have hr := ifp hr hc
      refine r_aload_n dX12_behind_92 rfl 0 rfl (nl rfl) ?_
      refine r_bipush dX12_behind_93 (by decide) (by decide) ?_
      obtain ⟨h95, hg95, hr⟩ := bnd hr
      refine k_V (ci := 12) (o := a0) (T := TX12) (as := [(0, 22)]) (rest := []) (X := (none, h95)) (oX12_joins hg95) gX12_joins rfl (by decide) rfl (wsl_69 _ (List.mem_of_getElem? (i := 11) rfl)) rfl dX12_behind_95 rfl ?_
      refine r_aload_n dX12_behind_98 rfl 0 rfl (nl rfl) ?_
      refine r_bipush dX12_behind_99 (by decide) (by decide) ?_
      obtain ⟨r101, hg101, hr⟩ := bnd hr
      refine k_V (ci := 12) (o := a0) (T := TX12) (as := [(0, 41)]) (rest := []) (X := (some (2, r101), h95)) (oX12_isSign hg101) gX12_isSign rfl (by decide) rfl (wsl_25 _ (List.mem_of_getElem? (i := 18) rfl)) rfl dX12_behind_101 rfl ?_
      refine r_scast 0 (v := (2, r101)) (w := (0, r101)) rfl zc hTz (st' := [(0, r101)]) rfl ?_
      refine r_if_eq dX12_behind_104 (tgt := 114) (by decide) (fun hc => ?_) (fun hc => ?_)
      · have hr := ifp hr hc
        exact oX12_behind_b114 (K := K) (fun r z => k0 r z) hr hk
      · have hr := ifn hr hc
        refine r_aload_n dX12_behind_107 rfl 0 rfl (nl rfl) ?_
        refine r_get 12 59 (o := a0) (w := (0, h95 a0 59)) (T := TX12) (ref := "FollowingRefsModel") rfl (by decide) rfl (by decide) inlX12 (wsl_69 _ (List.mem_of_getElem? (i := 0) rfl)) rfl dX12_behind_108 rfl ?_
        refine r_if_ne dX12_behind_111 (tgt := 120) (by decide) (fun hc => ?_) (fun hc => ?_)
        · have hr := ifn hr hc
          refine r_aload_n dX12_behind_120 rfl 0 rfl (nl rfl) ?_
          refine r_dup dX12_behind_121 (Nat.ne_of_beq_eq_false rfl) ?_
          refine r_get 12 59 (o := a0) (w := (0, h95 a0 59)) (T := TX12) (ref := "FollowingRefsModel") rfl (by decide) rfl (by decide) inlX12 (wsl_69 _ (List.mem_of_getElem? (i := 0) rfl)) rfl dX12_behind_122 rfl ?_
          refine r_iconst dX12_behind_125 (by decide) ?_
          refine r_isub dX12_behind_126 ?_
          obtain ⟨h127, hg127, hr⟩ := bnd hr
          refine r_put' 12 59 (t := 0) (ref := "FollowingRefsModel") hg127 rfl tyX12 tyX12_ok nmX12 rfl (by decide) rfl (by decide) inlX12 (wsl_69 _ (List.mem_of_getElem? (i := 0) rfl)) rfl rfl (by decide +kernel) (by decide) rfl (Or.inl ⟨rfl, rfl⟩) dX12_behind_127 ?_
          refine r_aload_n dX12_behind_130 rfl 0 rfl (nl rfl) ?_
          refine r_dup dX12_behind_131 (Nat.ne_of_beq_eq_false rfl) ?_
          refine r_get 12 60 (o := a0) (w := (0, h127 a0 60)) (T := TX12) (ref := "FollowingRefsModel") rfl (by decide) rfl (by decide) inlX12 (wsl_69 _ (List.mem_of_getElem? (i := 1) rfl)) rfl dX12_behind_132 rfl ?_
          refine r_iconst dX12_behind_135 (by decide) ?_
          refine r_isub dX12_behind_136 ?_
          obtain ⟨h137, hg137, hr⟩ := bnd hr
          refine r_put' 12 60 (t := 0) (ref := "FollowingRefsModel") hg137 rfl tyX12 tyX12_ok nmX12 rfl (by decide) rfl (by decide) inlX12 (wsl_69 _ (List.mem_of_getElem? (i := 1) rfl)) rfl rfl (by decide +kernel) (by decide) rfl (Or.inl ⟨rfl, rfl⟩) dX12_behind_137 ?_
          refine r_aload_n dX12_behind_140 rfl 0 rfl (nl rfl) ?_
          obtain ⟨h141, hg141, hr⟩ := bnd hr
          refine k_V (ci := 12) (o := a0) (T := TX12) (as := []) (rest := []) (X := (none, h141)) (oX12_next hg141) gX12_next rfl (by decide) rfl (wsl_24 _ (List.mem_of_getElem? (i := 0) rfl)) rfl dX12_behind_141 rfl ?_
          refine r_iconst dX12_behind_144 (by decide) ?_
          refine r_scast 0 (v := (0, 1)) (w := (2, 1)) rfl cz (fun _ => Or.inr rfl) (st' := [(2, 1)]) rfl ?_
          obtain rfl := Option.some.inj hr
          exact r_ret dX12_behind_145 rfl (Or.inr ⟨rfl, rfl⟩) (k0 _ hk) ⟨rfl, rfl⟩
        · have hr := ifp hr hc
          exact oX12_behind_b114 (K := K) (fun r z => k0 r z) hr hk
    · have hr := ifn hr hc
      exact oX12_behind_b24 (K := K) (fun r z => k0 r z) hr hk
end M_X12_behind
theorem oX12_behind {l : Launch} {D : va_G} {G : gG} {h : hH} {a0 : Int} {r : Int × hH} (hr : fX12_behind h a0 = some r) : Ctr l D G true yX12_behind M_X12_behind [(22, a0)] h (some (2, r.1), r.2) :=
  Ctr_of (by decide) rfl (fun z => by cases z) (nl rfl) (fun {p e R s m args below meth c A H0} => by
    exact oX12_behind_b0 (K := fun z9 => z9 = r) (fun r9 z => by rw [z]) hr rfl)
/-! X12_sentence -/
theorem dX12_sentence_0 : decode cX12_sentence 0 = .ok (.aload_n 0, 1) := by decide +kernel
theorem dX12_sentence_1 : decode cX12_sentence 1 = .ok (.iconst 0, 1) := by decide +kernel
theorem dX12_sentence_2 : decode cX12_sentence 2 = .ok (.putfield 1, 3) := by decide +kernel
theorem dX12_sentence_5 : decode cX12_sentence 5 = .ok (.aload_n 0, 1) := by decide +kernel
theorem dX12_sentence_6 : decode cX12_sentence 6 = .ok (.sipush 200, 3) := by decide +kernel
theorem dX12_sentence_9 : decode cX12_sentence 9 = .ok (.invokevirtual 302, 3) := by decide +kernel
theorem dX12_sentence_12 : decode cX12_sentence 12 = .ok (.aload_n 0, 1) := by decide +kernel
theorem dX12_sentence_13 : decode cX12_sentence 13 = .ok (.iconst 0, 1) := by decide +kernel
theorem dX12_sentence_14 : decode cX12_sentence 14 = .ok (.putfield 214, 3) := by decide +kernel
theorem dX12_sentence_17 : decode cX12_sentence 17 = .ok (.aload_n 0, 1) := by decide +kernel
theorem dX12_sentence_18 : decode cX12_sentence 18 = .ok (.iconst 0, 1) := by decide +kernel
theorem dX12_sentence_19 : decode cX12_sentence 19 = .ok (.putfield 552, 3) := by decide +kernel
theorem dX12_sentence_22 : decode cX12_sentence 22 = .ok (.aload_n 0, 1) := by decide +kernel
theorem dX12_sentence_23 : decode cX12_sentence 23 = .ok (.iconst 0, 1) := by decide +kernel
theorem dX12_sentence_24 : decode cX12_sentence 24 = .ok (.putfield 570, 3) := by decide +kernel
theorem dX12_sentence_27 : decode cX12_sentence 27 = .ok (.aload_n 0, 1) := by decide +kernel
theorem dX12_sentence_28 : decode cX12_sentence 28 = .ok (.iconst 0, 1) := by decide +kernel
theorem dX12_sentence_29 : decode cX12_sentence 29 = .ok (.putfield 555, 3) := by decide +kernel
theorem dX12_sentence_32 : decode cX12_sentence 32 = .ok (.aload_n 0, 1) := by decide +kernel
theorem dX12_sentence_33 : decode cX12_sentence 33 = .ok (.iconst 1, 1) := by decide +kernel
theorem dX12_sentence_34 : decode cX12_sentence 34 = .ok (.putfield 561, 3) := by decide +kernel
theorem dX12_sentence_37 : decode cX12_sentence 37 = .ok (.aload_n 0, 1) := by decide +kernel
theorem dX12_sentence_38 : decode cX12_sentence 38 = .ok (.iconst 0, 1) := by decide +kernel
theorem dX12_sentence_39 : decode cX12_sentence 39 = .ok (.putfield 573, 3) := by decide +kernel
theorem dX12_sentence_42 : decode cX12_sentence 42 = .ok (.aload_n 0, 1) := by decide +kernel
theorem dX12_sentence_43 : decode cX12_sentence 43 = .ok (.invokevirtual 226, 3) := by decide +kernel
theorem dX12_sentence_46 : decode cX12_sentence 46 = .ok (.iconst 1, 1) := by decide +kernel
theorem dX12_sentence_47 : decode cX12_sentence 47 = .ok (.istore_n 1, 1) := by decide +kernel
theorem dX12_sentence_48 : decode cX12_sentence 48 = .ok (.iload_n 1, 1) := by decide +kernel
theorem dX12_sentence_49 : decode cX12_sentence 49 = .ok (.ifCond .eq 83, 3) := by decide +kernel
theorem dX12_sentence_52 : decode cX12_sentence 52 = .ok (.aload_n 0, 1) := by decide +kernel
theorem dX12_sentence_53 : decode cX12_sentence 53 = .ok (.getfield 573, 3) := by decide +kernel
theorem dX12_sentence_56 : decode cX12_sentence 56 = .ok (.ifCond .eq 45, 3) := by decide +kernel
theorem dX12_sentence_59 : decode cX12_sentence 59 = .ok (.aload_n 0, 1) := by decide +kernel
theorem dX12_sentence_60 : decode cX12_sentence 60 = .ok (.getfield 197, 3) := by decide +kernel
theorem dX12_sentence_63 : decode cX12_sentence 63 = .ok (.ifCond .ne 38, 3) := by decide +kernel
theorem dX12_sentence_66 : decode cX12_sentence 66 = .ok (.aload_n 0, 1) := by decide +kernel
theorem dX12_sentence_67 : decode cX12_sentence 67 = .ok (.invokevirtual 576, 3) := by decide +kernel
theorem dX12_sentence_70 : decode cX12_sentence 70 = .ok (.aload_n 0, 1) := by decide +kernel
theorem dX12_sentence_71 : decode cX12_sentence 71 = .ok (.bipush 22, 2) := by decide +kernel
theorem dX12_sentence_73 : decode cX12_sentence 73 = .ok (.invokevirtual 579, 3) := by decide +kernel
theorem dX12_sentence_76 : decode cX12_sentence 76 = .ok (.aload_n 0, 1) := by decide +kernel
theorem dX12_sentence_77 : decode cX12_sentence 77 = .ok (.getfield 555, 3) := by decide +kernel
theorem dX12_sentence_80 : decode cX12_sentence 80 = .ok (.ifCond .le 16, 3) := by decide +kernel
theorem dX12_sentence_83 : decode cX12_sentence 83 = .ok (.aload_n 0, 1) := by decide +kernel
theorem dX12_sentence_84 : decode cX12_sentence 84 = .ok (.iconst 1, 1) := by decide +kernel
theorem dX12_sentence_85 : decode cX12_sentence 85 = .ok (.invokevirtual 223, 3) := by decide +kernel
theorem dX12_sentence_88 : decode cX12_sentence 88 = .ok (.pop, 1) := by decide +kernel
theorem dX12_sentence_89 : decode cX12_sentence 89 = .ok (.iconst (-1), 1) := by decide +kernel
theorem dX12_sentence_90 : decode cX12_sentence 90 = .ok (.aload_n 0, 1) := by decide +kernel
theorem dX12_sentence_91 : decode cX12_sentence 91 = .ok (.getfield 217, 3) := by decide +kernel
theorem dX12_sentence_94 : decode cX12_sentence 94 = .ok (.isub, 1) := by decide +kernel
theorem dX12_sentence_95 : decode cX12_sentence 95 = .ok (.ireturn, 1) := by decide +kernel
theorem dX12_sentence_96 : decode cX12_sentence 96 = .ok (.iconst 0, 1) := by decide +kernel
theorem dX12_sentence_97 : decode cX12_sentence 97 = .ok (.istore_n 1, 1) := by decide +kernel
theorem dX12_sentence_98 : decode cX12_sentence 98 = .ok (.goto (-50), 3) := by decide +kernel
theorem dX12_sentence_101 : decode cX12_sentence 101 = .ok (.aload_n 0, 1) := by decide +kernel
theorem dX12_sentence_102 : decode cX12_sentence 102 = .ok (.getfield 573, 3) := by decide +kernel
theorem dX12_sentence_105 : decode cX12_sentence 105 = .ok (.ifCond .eq 13, 3) := by decide +kernel
theorem dX12_sentence_108 : decode cX12_sentence 108 = .ok (.aload_n 0, 1) := by decide +kernel
theorem dX12_sentence_109 : decode cX12_sentence 109 = .ok (.invokevirtual 582, 3) := by decide +kernel
theorem dX12_sentence_112 : decode cX12_sentence 112 = .ok (.ifCond .ne (-64), 3) := by decide +kernel
theorem dX12_sentence_115 : decode cX12_sentence 115 = .ok (.goto 10, 3) := by decide +kernel
theorem dX12_sentence_118 : decode cX12_sentence 118 = .ok (.aload_n 0, 1) := by decide +kernel
theorem dX12_sentence_119 : decode cX12_sentence 119 = .ok (.invokevirtual 585, 3) := by decide +kernel
theorem dX12_sentence_122 : decode cX12_sentence 122 = .ok (.ifCond .ne (-74), 3) := by decide +kernel
theorem dX12_sentence_125 : decode cX12_sentence 125 = .ok (.iconst (-1), 1) := by decide +kernel
theorem dX12_sentence_126 : decode cX12_sentence 126 = .ok (.aload_n 0, 1) := by decide +kernel
theorem dX12_sentence_127 : decode cX12_sentence 127 = .ok (.getfield 217, 3) := by decide +kernel
theorem dX12_sentence_130 : decode cX12_sentence 130 = .ok (.isub, 1) := by decide +kernel
theorem dX12_sentence_131 : decode cX12_sentence 131 = .ok (.ireturn, 1) := by decide +kernel
theorem dX12_sentence_132 : decode cX12_sentence 132 = .ok (.aload_n 0, 1) := by decide +kernel
theorem dX12_sentence_133 : decode cX12_sentence 133 = .ok (.getfield 33, 3) := by decide +kernel
theorem dX12_sentence_136 : decode cX12_sentence 136 = .ok (.sipush 1239, 3) := by decide +kernel
theorem dX12_sentence_139 : decode cX12_sentence 139 = .ok (.aload_n 0, 1) := by decide +kernel
theorem dX12_sentence_140 : decode cX12_sentence 140 = .ok (.getfield 552, 3) := by decide +kernel
theorem dX12_sentence_143 : decode cX12_sentence 143 = .ok (.iastore, 1) := by decide +kernel
theorem dX12_sentence_144 : decode cX12_sentence 144 = .ok (.iconst 0, 1) := by decide +kernel
theorem dX12_sentence_145 : decode cX12_sentence 145 = .ok (.istore_n 2, 1) := by decide +kernel
theorem dX12_sentence_146 : decode cX12_sentence 146 = .ok (.iload_n 2, 1) := by decide +kernel
theorem dX12_sentence_147 : decode cX12_sentence 147 = .ok (.iconst 3, 1) := by decide +kernel
theorem dX12_sentence_148 : decode cX12_sentence 148 = .ok (.aload_n 0, 1) := by decide +kernel
theorem dX12_sentence_149 : decode cX12_sentence 149 = .ok (.getfield 552, 3) := by decide +kernel
theorem dX12_sentence_152 : decode cX12_sentence 152 = .ok (.imul, 1) := by decide +kernel
theorem dX12_sentence_153 : decode cX12_sentence 153 = .ok (.if_icmp .ge 25, 3) := by decide +kernel
theorem dX12_sentence_156 : decode cX12_sentence 156 = .ok (.aload_n 0, 1) := by decide +kernel
theorem dX12_sentence_157 : decode cX12_sentence 157 = .ok (.getfield 33, 3) := by decide +kernel
theorem dX12_sentence_160 : decode cX12_sentence 160 = .ok (.sipush 1240, 3) := by decide +kernel
theorem dX12_sentence_163 : decode cX12_sentence 163 = .ok (.iload_n 2, 1) := by decide +kernel
theorem dX12_sentence_164 : decode cX12_sentence 164 = .ok (.iadd, 1) := by decide +kernel
theorem dX12_sentence_165 : decode cX12_sentence 165 = .ok (.aload_n 0, 1) := by decide +kernel
theorem dX12_sentence_166 : decode cX12_sentence 166 = .ok (.getfield 40, 3) := by decide +kernel
theorem dX12_sentence_169 : decode cX12_sentence 169 = .ok (.iload_n 2, 1) := by decide +kernel
theorem dX12_sentence_170 : decode cX12_sentence 170 = .ok (.iaload, 1) := by decide +kernel
theorem dX12_sentence_171 : decode cX12_sentence 171 = .ok (.iastore, 1) := by decide +kernel
theorem dX12_sentence_172 : decode cX12_sentence 172 = .ok (.iinc 2 1, 3) := by decide +kernel
theorem dX12_sentence_175 : decode cX12_sentence 175 = .ok (.goto (-29), 3) := by decide +kernel
theorem dX12_sentence_178 : decode cX12_sentence 178 = .ok (.aload_n 0, 1) := by decide +kernel
theorem dX12_sentence_179 : decode cX12_sentence 179 = .ok (.getfield 570, 3) := by decide +kernel
theorem dX12_sentence_182 : decode cX12_sentence 182 = .ok (.ireturn, 1) := by decide +kernel
abbrev M_X12_sentence : mM := (cX12_sentence, 3, RX12, some .int, false, 4, 89, 0, 0)
theorem gX12_sentence : cI yX12_sentence M_X12_sentence 0 := ⟨(wsl_68 _ (List.mem_of_getElem? (i := 19) rfl)), (wsl_68 _ (List.mem_of_getElem? (i := 20) rfl)), (wsl_1 _ (List.mem_of_getElem? (i := 5) rfl)), (wsl_68 _ (List.mem_of_getElem? (i := 21) rfl)), by decide +kernel⟩
noncomputable def fX12_sentence_b125 (h : hH) (a0 : Int) : Option (Int × hH) :=
  some (w32 ((-1) - (h a0 17)), h)
noncomputable def fX12_sentence_b101 (h : hH) (a0 l1 : Int) : Option ((hH × Int) ⊕ (Int × hH)) :=
  if h a0 61 = 0 then
    (fX12_operand h a0).bind fun q119 =>
    if q119.1 = 0 then
      (fX12_sentence_b125 q119.2 a0).map (fun z9 => .inr (z9))
    else
      some (.inl (q119.2, l1))
  else
    (fX12_behind h a0).bind fun q109 =>
    if q109.1 = 0 then
      (fX12_sentence_b125 q109.2 a0).map (fun z9 => .inr (z9))
    else
      some (.inl (q109.2, l1))
noncomputable def fX12_sentence_s146 (h0 : hH) (a0 : Int) : hH × Int → Option ((hH × Int) ⊕ (Int × hH)) := fun (h, l2) =>
  if l2 < w32 (3 * (h a0 57)) then
    (aget h (h a0 8) l2).bind fun v170 =>
    (aput h (h a0 6) (w32 (1240 + l2)) v170).bind fun h171 =>
    some (.inl (h171, w32 (l2 + 1)))
  else
    some (.inr ((h a0 58, h)))
noncomputable def fX12_sentence_s48 (h0 : hH) (a0 : Int) : hH × Int → Option ((hH × Int) ⊕ (Int × hH)) := fun (h, l1) =>
  if l1 = 0 then
    (aput h (h a0 6) 1239 (h a0 57)).bind fun h143 =>
    (lpO (fX12_sentence_s146 h143 a0) (h143, 0)).map (fun z9 => .inr (z9))
  else
    if h a0 61 = 0 then
      fX12_sentence_b101 h a0 l1
    else
      if h a0 12 = 0 then
        (fX12_nots h a0).bind fun h67 =>
        (fX12_joins h67 a0 22).bind fun h73 =>
        if 0 < h73 a0 59 then
          (fX12_bad h73 a0 1).bind fun q85 =>
          some (.inr ((w32 ((-1) - (q85.2 a0 17)), q85.2)))
        else
          some (.inl (h73, 0))
      else
        fX12_sentence_b101 h a0 l1
noncomputable def fX12_sentence (h : hH) (a0 : Int) : Option (Int × hH) :=
  (pput h a0 0 0).bind fun h2 =>
  (fX12_taken h2 a0 200).bind fun h9 =>
  (pput h9 a0 16 0).bind fun h14 =>
  (pput h14 a0 57 0).bind fun h19 =>
  (pput h19 a0 58 0).bind fun h24 =>
  (pput h24 a0 59 0).bind fun h29 =>
  (pput h29 a0 60 1).bind fun h34 =>
  (pput h34 a0 61 0).bind fun h39 =>
  (fX12_next h39 a0).bind fun h43 =>
  lpO (fX12_sentence_s48 h43 a0) (h43, 1)
section M_X12_sentence
variable {p : Program} {l : Launch} {e : Env} {R : Room} {s : State} {m : MethodId} {args : Array Value} {below : List Frame} {meth : Method} {c : Code} {D : va_G} {G : gG} {A : Nat → Prop} {H0 : Heap} {n0 : Int} {x : Option vV × hH} {h : hH}
set_option maxRecDepth 100000 in
set_option maxHeartbeats 4000000 in
theorem oX12_sentence_b125 {a0 : Int} {K : Int × hH → Prop} (k0 : ∀ r, K (r) → x = (some (0, r.1), r.2)) {r : Int × hH} (hr : fX12_sentence_b125 h a0 = some r) (hk : K r) : Wq p l e R s m args below meth c D G A H0 true n0 M_X12_sentence x 0 0 125 [(0, (22, a0))] [] h := by
  unfold fX12_sentence_b125 at hr
  refine r_iconst dX12_sentence_125 (by decide) ?_
  refine r_aload_n dX12_sentence_126 rfl 0 rfl (nl rfl) ?_
  refine r_get 12 17 (o := a0) (w := (0, h a0 17)) (T := TX12) (ref := "FollowingRefsModel") rfl (by decide) rfl (by decide) inlX12 (wsl_23 _ (List.mem_of_getElem? (i := 15) rfl)) rfl dX12_sentence_127 rfl ?_
  refine r_isub dX12_sentence_130 ?_
  obtain rfl := Option.some.inj hr
  exact r_ret dX12_sentence_131 rfl (Or.inl ⟨rfl, rfl⟩) (k0 _ hk) ⟨rfl, rfl⟩
set_option maxRecDepth 100000 in
set_option maxHeartbeats 4000000 in
theorem oX12_sentence_b101 {a0 l1 : Int} {K : (hH × Int) ⊕ (Int × hH) → Prop} (k0 : ∀ r, K (.inr (r)) → x = (some (0, r.1), r.2)) (k1 : ∀ (h : hH) (l1 : Int), K (.inl (h, l1)) → Wq p l e R s m args below meth c D G A H0 true n0 M_X12_sentence x 0 0 48 [(0, (22, a0)), (1, (2, l1))] [] h) {r : (hH × Int) ⊕ (Int × hH)} (hr : fX12_sentence_b101 h a0 l1 = some r) (hk : K r) : Wq p l e R s m args below meth c D G A H0 true n0 M_X12_sentence x 0 0 101 [(0, (22, a0)), (1, (2, l1))] [] h := by
  unfold fX12_sentence_b101 at hr
  refine r_aload_n dX12_sentence_101 rfl 0 rfl (nl rfl) ?_
  refine r_get 12 61 (o := a0) (w := (2, h a0 61)) (T := TX12) (ref := "FollowingRefsModel") rfl (by decide) rfl (by decide) inlX12 (wsl_69 _ (List.mem_of_getElem? (i := 2) rfl)) rfl dX12_sentence_102 rfl ?_
  refine r_scast 0 (v := (2, h a0 61)) (w := (0, h a0 61)) rfl zc hTz (st' := [(0, h a0 61)]) rfl ?_
  refine r_if_eq dX12_sentence_105 (tgt := 118) (by decide) (fun hc => ?_) (fun hc => ?_)
  · have hr := ifp hr hc
    refine r_aload_n dX12_sentence_118 rfl 0 rfl (nl rfl) ?_
    obtain ⟨q119, hg119, hr⟩ := bnd hr
    refine k_V (ci := 12) (o := a0) (T := TX12) (as := []) (rest := []) (X := (some (2, q119.1), q119.2)) (oX12_operand hg119) gX12_operand rfl (by decide) rfl (wsl_69 _ (List.mem_of_getElem? (i := 19) rfl)) rfl dX12_sentence_119 rfl ?_
    refine r_scast 0 (v := (2, q119.1)) (w := (0, q119.1)) rfl zc hTz (st' := [(0, q119.1)]) rfl ?_
    refine r_if_ne dX12_sentence_122 (tgt := 48) (by decide) (fun hc => ?_) (fun hc => ?_)
    · have hr := ifn hr hc
      obtain rfl := Option.some.inj hr
      exact k1 _ _ hk
    · have hr := ifp hr hc
      refine r_sub [0] (lv' := [(0, (22, a0))]) rfl ?_
      obtain ⟨r9, hr9, rfl⟩ := mpp hr
      exact oX12_sentence_b125 (K := fun z9 => K (.inr (z9))) (fun r z => k0 r z) hr9 hk
  · have hr := ifn hr hc
    refine r_aload_n dX12_sentence_108 rfl 0 rfl (nl rfl) ?_
    obtain ⟨q109, hg109, hr⟩ := bnd hr
    refine k_V (ci := 12) (o := a0) (T := TX12) (as := []) (rest := []) (X := (some (2, q109.1), q109.2)) (oX12_behind hg109) gX12_behind rfl (by decide) rfl (wsl_69 _ (List.mem_of_getElem? (i := 15) rfl)) rfl dX12_sentence_109 rfl ?_
    refine r_scast 0 (v := (2, q109.1)) (w := (0, q109.1)) rfl zc hTz (st' := [(0, q109.1)]) rfl ?_
    refine r_if_ne dX12_sentence_112 (tgt := 48) (by decide) (fun hc => ?_) (fun hc => ?_)
    · have hr := ifn hr hc
      obtain rfl := Option.some.inj hr
      exact k1 _ _ hk
    · have hr := ifp hr hc
      refine r_goto dX12_sentence_115 (tgt := 125) (by decide) ?_
      refine r_sub [0] (lv' := [(0, (22, a0))]) rfl ?_
      obtain ⟨r9, hr9, rfl⟩ := mpp hr
      exact oX12_sentence_b125 (K := fun z9 => K (.inr (z9))) (fun r z => k0 r z) hr9 hk
set_option maxRecDepth 100000 in
set_option maxHeartbeats 4000000 in
theorem oX12_sentence_s146 {h0 : hH} {a0 l2 : Int} {K : (hH × Int) ⊕ (Int × hH) → Prop} (k0 : ∀ r, K (.inr (r)) → x = (some (0, r.1), r.2)) (k1 : ∀ (h : hH) (l2 : Int), K (.inl (h, l2)) → Wq p l e R s m args below meth c D G A H0 true n0 M_X12_sentence x 0 0 146 [(0, (22, a0)), (2, (0, l2))] [] h) {r : (hH × Int) ⊕ (Int × hH)} (hr : fX12_sentence_s146 h0 a0 (h, l2) = some r) (hk : K r) : Wq p l e R s m args below meth c D G A H0 true n0 M_X12_sentence x 0 0 146 [(0, (22, a0)), (2, (0, l2))] [] h := by
  unfold fX12_sentence_s146 at hr
  refine r_iload_n dX12_sentence_146 rfl 1 rfl (Or.inl rfl) ?_
  refine r_iconst dX12_sentence_147 (by decide) ?_
  refine r_aload_n dX12_sentence_148 rfl 0 rfl (nl rfl) ?_
  refine r_get 12 57 (o := a0) (w := (0, h a0 57)) (T := TX12) (ref := "FollowingRefsModel") rfl (by decide) rfl (by decide) inlX12 (wsl_68 _ (List.mem_of_getElem? (i := 22) rfl)) rfl dX12_sentence_149 rfl ?_
  refine r_imul dX12_sentence_152 ?_
  refine r_icmp_ge dX12_sentence_153 (tgt := 178) (by decide) (fun hc => ?_) (fun hc => ?_)
  · have hr := ifn hr hc
    refine r_aload_n dX12_sentence_178 rfl 0 rfl (nl rfl) ?_
    refine r_get 12 58 (o := a0) (w := (0, h a0 58)) (T := TX12) (ref := "FollowingRefsModel") rfl (by decide) rfl (by decide) inlX12 (wsl_68 _ (List.mem_of_getElem? (i := 23) rfl)) rfl dX12_sentence_179 rfl ?_
    obtain rfl := Option.some.inj hr
    exact r_ret dX12_sentence_182 rfl (Or.inl ⟨rfl, rfl⟩) (k0 _ hk) ⟨rfl, rfl⟩
  · have hr := ifp hr hc
    refine r_aload_n dX12_sentence_156 rfl 0 rfl (nl rfl) ?_
    refine r_get 12 6 (o := a0) (w := (50, h a0 6)) (T := TX12) (ref := "FollowingRefsModel") rfl (by decide) rfl (by decide) inlX12 (wsl_7 _ (List.mem_of_getElem? (i := 8) rfl)) rfl dX12_sentence_157 rfl ?_
    refine r_sipush dX12_sentence_160 (by decide) (by decide) ?_
    refine r_iload_n dX12_sentence_163 rfl 1 rfl (Or.inl rfl) ?_
    refine r_iadd dX12_sentence_164 ?_
    refine r_aload_n dX12_sentence_165 rfl 0 rfl (nl rfl) ?_
    refine r_get 12 8 (o := a0) (w := (50, h a0 8)) (T := TX12) (ref := "FollowingRefsModel") rfl (by decide) rfl (by decide) inlX12 (wsl_7 _ (List.mem_of_getElem? (i := 10) rfl)) rfl dX12_sentence_166 rfl ?_
    refine r_iload_n dX12_sentence_169 rfl 1 rfl (Or.inl rfl) ?_
    obtain ⟨v170, hg170, hr⟩ := bnd hr
    refine r_iald dX12_sentence_170 hg170 ?_
    obtain ⟨h171, hg171, hr⟩ := bnd hr
    refine r_iast dX12_sentence_171 hg171 ?_
    refine r_iinc (k := 1) (v := l2) dX12_sentence_172 rfl (by decide) (lv' := [(2, (0, w32 (l2 + 1))), (0, (22, a0))]) rfl ?_
    refine r_goto dX12_sentence_175 (tgt := 146) (by decide) ?_
    refine r_sub [1, 0] (lv' := [(0, (22, a0)), (2, (0, w32 (l2 + 1)))]) rfl ?_
    obtain rfl := Option.some.inj hr
    exact k1 _ _ hk
set_option maxRecDepth 100000 in
set_option maxHeartbeats 4000000 in
theorem oX12_sentence_s48 {h0 : hH} {a0 l1 : Int} {K : (hH × Int) ⊕ (Int × hH) → Prop} (k0 : ∀ r, K (.inr (r)) → x = (some (0, r.1), r.2)) (k1 : ∀ (h : hH) (l1 : Int), K (.inl (h, l1)) → Wq p l e R s m args below meth c D G A H0 true n0 M_X12_sentence x 0 0 48 [(0, (22, a0)), (1, (2, l1))] [] h) {r : (hH × Int) ⊕ (Int × hH)} (hr : fX12_sentence_s48 h0 a0 (h, l1) = some r) (hk : K r) : Wq p l e R s m args below meth c D G A H0 true n0 M_X12_sentence x 0 0 48 [(0, (22, a0)), (1, (2, l1))] [] h := by
  unfold fX12_sentence_s48 at hr
  refine r_iload_n dX12_sentence_48 rfl 1 rfl (Or.inr rfl) ?_
  refine r_scast 0 (v := (2, l1)) (w := (0, l1)) rfl zc hTz (st' := [(0, l1)]) rfl ?_
  refine r_if_eq dX12_sentence_49 (tgt := 132) (by decide) (fun hc => ?_) (fun hc => ?_)
  · have hr := ifp hr hc
    refine r_aload_n dX12_sentence_132 rfl 0 rfl (nl rfl) ?_
    refine r_get 12 6 (o := a0) (w := (50, h a0 6)) (T := TX12) (ref := "FollowingRefsModel") rfl (by decide) rfl (by decide) inlX12 (wsl_7 _ (List.mem_of_getElem? (i := 8) rfl)) rfl dX12_sentence_133 rfl ?_
    refine r_sipush dX12_sentence_136 (by decide) (by decide) ?_
    refine r_aload_n dX12_sentence_139 rfl 0 rfl (nl rfl) ?_
    refine r_get 12 57 (o := a0) (w := (0, h a0 57)) (T := TX12) (ref := "FollowingRefsModel") rfl (by decide) rfl (by decide) inlX12 (wsl_68 _ (List.mem_of_getElem? (i := 22) rfl)) rfl dX12_sentence_140 rfl ?_
    obtain ⟨h143, hg143, hr⟩ := bnd hr
    refine r_iast dX12_sentence_143 hg143 ?_
    refine r_iconst dX12_sentence_144 (by decide) ?_
    refine r_istore_n dX12_sentence_145 rfl (Or.inl rfl) (by decide) (lv' := [(2, (0, 0)), (0, (22, a0)), (1, (2, l1))]) rfl ?_
    refine r_sub [1, 0] (lv' := [(0, (22, a0)), (2, (0, 0))]) rfl ?_
    obtain ⟨r9, hr9, rfl⟩ := mpp hr
    exact lp_ok (w := fun (q : hH × Int) => Wq p l e R s m args below meth c D G A H0 true n0 M_X12_sentence x 0 0 146 [(0, (22, a0)), (2, (0, q.2))] [] (q.1)) (K := fun z9 => K (.inr (z9))) (fun ⟨q0, q1⟩ r h1 h2 => oX12_sentence_s146 (K := Sum.elim (fun (q : hH × Int) => Wq p l e R s m args below meth c D G A H0 true n0 M_X12_sentence x 0 0 146 [(0, (22, a0)), (2, (0, q.2))] [] (q.1)) (fun z9 => K (.inr (z9)))) (fun r z => k0 r z) (fun _ _ z => z) h1 h2) hr9 hk
  · have hr := ifn hr hc
    refine r_aload_n dX12_sentence_52 rfl 0 rfl (nl rfl) ?_
    refine r_get 12 61 (o := a0) (w := (2, h a0 61)) (T := TX12) (ref := "FollowingRefsModel") rfl (by decide) rfl (by decide) inlX12 (wsl_69 _ (List.mem_of_getElem? (i := 2) rfl)) rfl dX12_sentence_53 rfl ?_
    refine r_scast 0 (v := (2, h a0 61)) (w := (0, h a0 61)) rfl zc hTz (st' := [(0, h a0 61)]) rfl ?_
    refine r_if_eq dX12_sentence_56 (tgt := 101) (by decide) (fun hc => ?_) (fun hc => ?_)
    · have hr := ifp hr hc
      exact oX12_sentence_b101 (K := K) (fun r z => k0 r z) (fun _ _ z => k1 _ _ z) hr hk
    · have hr := ifn hr hc
      refine r_aload_n dX12_sentence_59 rfl 0 rfl (nl rfl) ?_
      refine r_get 12 12 (o := a0) (w := (0, h a0 12)) (T := TX12) (ref := "FollowingRefsModel") rfl (by decide) rfl (by decide) inlX12 (wsl_23 _ (List.mem_of_getElem? (i := 14) rfl)) rfl dX12_sentence_60 rfl ?_
      refine r_if_ne dX12_sentence_63 (tgt := 101) (by decide) (fun hc => ?_) (fun hc => ?_)
      · have hr := ifn hr hc
        exact oX12_sentence_b101 (K := K) (fun r z => k0 r z) (fun _ _ z => k1 _ _ z) hr hk
      · have hr := ifp hr hc
        refine r_aload_n dX12_sentence_66 rfl 0 rfl (nl rfl) ?_
        obtain ⟨h67, hg67, hr⟩ := bnd hr
        refine k_V (ci := 12) (o := a0) (T := TX12) (as := []) (rest := []) (X := (none, h67)) (oX12_nots hg67) gX12_nots rfl (by decide) rfl (wsl_69 _ (List.mem_of_getElem? (i := 3) rfl)) rfl dX12_sentence_67 rfl ?_
        refine r_aload_n dX12_sentence_70 rfl 0 rfl (nl rfl) ?_
        refine r_bipush dX12_sentence_71 (by decide) (by decide) ?_
        obtain ⟨h73, hg73, hr⟩ := bnd hr
        refine k_V (ci := 12) (o := a0) (T := TX12) (as := [(0, 22)]) (rest := []) (X := (none, h73)) (oX12_joins hg73) gX12_joins rfl (by decide) rfl (wsl_69 _ (List.mem_of_getElem? (i := 11) rfl)) rfl dX12_sentence_73 rfl ?_
        refine r_aload_n dX12_sentence_76 rfl 0 rfl (nl rfl) ?_
        refine r_get 12 59 (o := a0) (w := (0, h73 a0 59)) (T := TX12) (ref := "FollowingRefsModel") rfl (by decide) rfl (by decide) inlX12 (wsl_69 _ (List.mem_of_getElem? (i := 0) rfl)) rfl dX12_sentence_77 rfl ?_
        refine r_if_le dX12_sentence_80 (tgt := 96) (by decide) (fun hc => ?_) (fun hc => ?_)
        · have hr := ifn hr hc
          refine r_iconst dX12_sentence_96 (by decide) ?_
          refine r_istore_n dX12_sentence_97 rfl (Or.inl rfl) (by decide) (lv' := [(1, (0, 0)), (0, (22, a0))]) rfl ?_
          refine r_goto dX12_sentence_98 (tgt := 48) (by decide) ?_
          refine r_lcast 0 (v := (0, 0)) (w := (2, 0)) rfl cz (fun _ => Or.inl rfl) (lv' := [(1, (2, 0)), (0, (22, a0))]) rfl ?_
          refine r_sub [1, 0] (lv' := [(0, (22, a0)), (1, (2, 0))]) rfl ?_
          obtain rfl := Option.some.inj hr
          exact k1 _ _ hk
        · have hr := ifp hr hc
          refine r_aload_n dX12_sentence_83 rfl 0 rfl (nl rfl) ?_
          refine r_iconst dX12_sentence_84 (by decide) ?_
          obtain ⟨q85, hg85, hr⟩ := bnd hr
          refine k_V (ci := 12) (o := a0) (T := TX12) (as := [(0, 1)]) (rest := []) (X := (some (2, q85.1), q85.2)) (oX12_bad hg85) gX12_bad rfl (by decide) rfl (wsl_25 _ (List.mem_of_getElem? (i := 6) rfl)) rfl dX12_sentence_85 rfl ?_
          refine r_pop dX12_sentence_88 (Nat.ne_of_beq_eq_false rfl) ?_
          refine r_iconst dX12_sentence_89 (by decide) ?_
          refine r_aload_n dX12_sentence_90 rfl 0 rfl (nl rfl) ?_
          refine r_get 12 17 (o := a0) (w := (0, q85.2 a0 17)) (T := TX12) (ref := "FollowingRefsModel") rfl (by decide) rfl (by decide) inlX12 (wsl_23 _ (List.mem_of_getElem? (i := 15) rfl)) rfl dX12_sentence_91 rfl ?_
          refine r_isub dX12_sentence_94 ?_
          obtain rfl := Option.some.inj hr
          exact r_ret dX12_sentence_95 rfl (Or.inl ⟨rfl, rfl⟩) (k0 _ hk) ⟨rfl, rfl⟩
set_option maxRecDepth 100000 in
set_option maxHeartbeats 4000000 in
theorem oX12_sentence_b0 {a0 : Int} {K : Int × hH → Prop} (k0 : ∀ r, K (r) → x = (some (0, r.1), r.2)) {r : Int × hH} (hr : fX12_sentence h a0 = some r) (hk : K r) : Wq p l e R s m args below meth c D G A H0 true n0 M_X12_sentence x 0 0 0 [(0, (22, a0))] [] h := by
  unfold fX12_sentence at hr
  refine r_aload_n dX12_sentence_0 rfl 0 rfl (nl rfl) ?_
  refine r_iconst dX12_sentence_1 (by decide) ?_
  obtain ⟨h2, hg2, hr⟩ := bnd hr
  refine r_put' 12 0 (t := 0) (ref := "FollowingRefsModel") hg2 rfl tyX12 tyX12_ok nmX12 rfl (by decide) rfl (by decide) inlX12 (wsl_10 _ (List.mem_of_getElem? (i := 11) rfl)) rfl rfl (by decide +kernel) (by decide) rfl (Or.inl ⟨rfl, rfl⟩) dX12_sentence_2 ?_
  refine r_aload_n dX12_sentence_5 rfl 0 rfl (nl rfl) ?_
  refine r_sipush dX12_sentence_6 (by decide) (by decide) ?_
  obtain ⟨h9, hg9, hr⟩ := bnd hr
  refine k_V (ci := 12) (o := a0) (T := TX12) (as := [(0, 200)]) (rest := []) (X := (none, h9)) (oX12_taken hg9) gX12_taken rfl (by decide) rfl (wsl_23 _ (List.mem_of_getElem? (i := 17) rfl)) rfl dX12_sentence_9 rfl ?_
  refine r_aload_n dX12_sentence_12 rfl 0 rfl (nl rfl) ?_
  refine r_iconst dX12_sentence_13 (by decide) ?_
  obtain ⟨h14, hg14, hr⟩ := bnd hr
  refine r_put' 12 16 (t := 0) (ref := "FollowingRefsModel") hg14 rfl tyX12 tyX12_ok nmX12 rfl (by decide) rfl (by decide) inlX12 (wsl_23 _ (List.mem_of_getElem? (i := 12) rfl)) rfl rfl (by decide +kernel) (by decide) rfl (Or.inl ⟨rfl, rfl⟩) dX12_sentence_14 ?_
  refine r_aload_n dX12_sentence_17 rfl 0 rfl (nl rfl) ?_
  refine r_iconst dX12_sentence_18 (by decide) ?_
  obtain ⟨h19, hg19, hr⟩ := bnd hr
  refine r_put' 12 57 (t := 0) (ref := "FollowingRefsModel") hg19 rfl tyX12 tyX12_ok nmX12 rfl (by decide) rfl (by decide) inlX12 (wsl_68 _ (List.mem_of_getElem? (i := 22) rfl)) rfl rfl (by decide +kernel) (by decide) rfl (Or.inl ⟨rfl, rfl⟩) dX12_sentence_19 ?_
  refine r_aload_n dX12_sentence_22 rfl 0 rfl (nl rfl) ?_
  refine r_iconst dX12_sentence_23 (by decide) ?_
  obtain ⟨h24, hg24, hr⟩ := bnd hr
  refine r_put' 12 58 (t := 0) (ref := "FollowingRefsModel") hg24 rfl tyX12 tyX12_ok nmX12 rfl (by decide) rfl (by decide) inlX12 (wsl_68 _ (List.mem_of_getElem? (i := 23) rfl)) rfl rfl (by decide +kernel) (by decide) rfl (Or.inl ⟨rfl, rfl⟩) dX12_sentence_24 ?_
  refine r_aload_n dX12_sentence_27 rfl 0 rfl (nl rfl) ?_
  refine r_iconst dX12_sentence_28 (by decide) ?_
  obtain ⟨h29, hg29, hr⟩ := bnd hr
  refine r_put' 12 59 (t := 0) (ref := "FollowingRefsModel") hg29 rfl tyX12 tyX12_ok nmX12 rfl (by decide) rfl (by decide) inlX12 (wsl_69 _ (List.mem_of_getElem? (i := 0) rfl)) rfl rfl (by decide +kernel) (by decide) rfl (Or.inl ⟨rfl, rfl⟩) dX12_sentence_29 ?_
  refine r_aload_n dX12_sentence_32 rfl 0 rfl (nl rfl) ?_
  refine r_iconst dX12_sentence_33 (by decide) ?_
  obtain ⟨h34, hg34, hr⟩ := bnd hr
  refine r_put' 12 60 (t := 0) (ref := "FollowingRefsModel") hg34 rfl tyX12 tyX12_ok nmX12 rfl (by decide) rfl (by decide) inlX12 (wsl_69 _ (List.mem_of_getElem? (i := 1) rfl)) rfl rfl (by decide +kernel) (by decide) rfl (Or.inl ⟨rfl, rfl⟩) dX12_sentence_34 ?_
  refine r_aload_n dX12_sentence_37 rfl 0 rfl (nl rfl) ?_
  refine r_iconst dX12_sentence_38 (by decide) ?_
  refine r_scast 0 (v := (0, 0)) (w := (2, 0)) rfl cz (fun _ => Or.inl rfl) (st' := [(2, 0), (22, a0)]) rfl ?_
  obtain ⟨h39, hg39, hr⟩ := bnd hr
  refine r_put' 12 61 (t := 2) (ref := "FollowingRefsModel") hg39 rfl tyX12 tyX12_ok nmX12 rfl (by decide) rfl (by decide) inlX12 (wsl_69 _ (List.mem_of_getElem? (i := 2) rfl)) rfl rfl (by decide +kernel) (by decide) rfl (Or.inr (Or.inr (Or.inl ⟨rfl, rfl⟩))) dX12_sentence_39 ?_
  refine r_aload_n dX12_sentence_42 rfl 0 rfl (nl rfl) ?_
  obtain ⟨h43, hg43, hr⟩ := bnd hr
  refine k_V (ci := 12) (o := a0) (T := TX12) (as := []) (rest := []) (X := (none, h43)) (oX12_next hg43) gX12_next rfl (by decide) rfl (wsl_24 _ (List.mem_of_getElem? (i := 0) rfl)) rfl dX12_sentence_43 rfl ?_
  refine r_iconst dX12_sentence_46 (by decide) ?_
  refine r_istore_n dX12_sentence_47 rfl (Or.inl rfl) (by decide) (lv' := [(1, (0, 1)), (0, (22, a0))]) rfl ?_
  refine r_lcast 0 (v := (0, 1)) (w := (2, 1)) rfl cz (fun _ => Or.inr rfl) (lv' := [(1, (2, 1)), (0, (22, a0))]) rfl ?_
  refine r_sub [1, 0] (lv' := [(0, (22, a0)), (1, (2, 1))]) rfl ?_
  exact lp_ok (w := fun (q : hH × Int) => Wq p l e R s m args below meth c D G A H0 true n0 M_X12_sentence x 0 0 48 [(0, (22, a0)), (1, (2, q.2))] [] (q.1)) (K := K) (fun ⟨q0, q1⟩ r h1 h2 => oX12_sentence_s48 (K := Sum.elim (fun (q : hH × Int) => Wq p l e R s m args below meth c D G A H0 true n0 M_X12_sentence x 0 0 48 [(0, (22, a0)), (1, (2, q.2))] [] (q.1)) (K)) (fun r z => k0 r z) (fun _ _ z => z) h1 h2) hr hk
end M_X12_sentence
theorem oX12_sentence {l : Launch} {D : va_G} {G : gG} {h : hH} {a0 : Int} {r : Int × hH} (hr : fX12_sentence h a0 = some r) : Ctr l D G true yX12_sentence M_X12_sentence [(22, a0)] h (some (0, r.1), r.2) :=
  Ctr_of (by decide) rfl (fun z => by cases z) (nl rfl) (fun {p e R s m args below meth c A H0} => by
    exact oX12_sentence_b0 (K := fun z9 => z9 = r) (fun r9 z => by rw [z]) hr rfl)
/-! X12_isBroken -/
theorem dX12_isBroken_0 : decode cX12_isBroken 0 = .ok (.aload_n 0, 1) := by decide +kernel
theorem dX12_isBroken_1 : decode cX12_isBroken 1 = .ok (.iconst 1, 1) := by decide +kernel
theorem dX12_isBroken_2 : decode cX12_isBroken 2 = .ok (.invokevirtual 432, 3) := by decide +kernel
theorem dX12_isBroken_5 : decode cX12_isBroken 5 = .ok (.iconst 0, 1) := by decide +kernel
theorem dX12_isBroken_6 : decode cX12_isBroken 6 = .ok (.istore_n 2, 1) := by decide +kernel
theorem dX12_isBroken_7 : decode cX12_isBroken 7 = .ok (.iconst 0, 1) := by decide +kernel
theorem dX12_isBroken_8 : decode cX12_isBroken 8 = .ok (.istore_n 3, 1) := by decide +kernel
theorem dX12_isBroken_9 : decode cX12_isBroken 9 = .ok (.iload_n 3, 1) := by decide +kernel
theorem dX12_isBroken_10 : decode cX12_isBroken 10 = .ok (.aload_n 0, 1) := by decide +kernel
theorem dX12_isBroken_11 : decode cX12_isBroken 11 = .ok (.getfield 327, 3) := by decide +kernel
theorem dX12_isBroken_14 : decode cX12_isBroken 14 = .ok (.if_icmp .ge 29, 3) := by decide +kernel
theorem dX12_isBroken_17 : decode cX12_isBroken 17 = .ok (.iload_n 2, 1) := by decide +kernel
theorem dX12_isBroken_18 : decode cX12_isBroken 18 = .ok (.ifCond .ne 13, 3) := by decide +kernel
theorem dX12_isBroken_21 : decode cX12_isBroken 21 = .ok (.aload_n 0, 1) := by decide +kernel
theorem dX12_isBroken_22 : decode cX12_isBroken 22 = .ok (.getfield 59, 3) := by decide +kernel
theorem dX12_isBroken_25 : decode cX12_isBroken 25 = .ok (.iload_n 3, 1) := by decide +kernel
theorem dX12_isBroken_26 : decode cX12_isBroken 26 = .ok (.iaload, 1) := by decide +kernel
theorem dX12_isBroken_27 : decode cX12_isBroken 27 = .ok (.iload_n 1, 1) := by decide +kernel
theorem dX12_isBroken_28 : decode cX12_isBroken 28 = .ok (.if_icmp .ne 7, 3) := by decide +kernel
theorem dX12_isBroken_31 : decode cX12_isBroken 31 = .ok (.iconst 1, 1) := by decide +kernel
theorem dX12_isBroken_32 : decode cX12_isBroken 32 = .ok (.goto 4, 3) := by decide +kernel
theorem dX12_isBroken_35 : decode cX12_isBroken 35 = .ok (.iconst 0, 1) := by decide +kernel
theorem dX12_isBroken_36 : decode cX12_isBroken 36 = .ok (.istore_n 2, 1) := by decide +kernel
theorem dX12_isBroken_37 : decode cX12_isBroken 37 = .ok (.iinc 3 1, 3) := by decide +kernel
theorem dX12_isBroken_40 : decode cX12_isBroken 40 = .ok (.goto (-31), 3) := by decide +kernel
theorem dX12_isBroken_43 : decode cX12_isBroken 43 = .ok (.iload_n 2, 1) := by decide +kernel
theorem dX12_isBroken_44 : decode cX12_isBroken 44 = .ok (.ireturn, 1) := by decide +kernel
abbrev M_X12_isBroken : mM := (cX12_isBroken, 4, RX12, some .boolean, false, 5, 119, 0, 0)
theorem gX12_isBroken : cI yX12_isBroken M_X12_isBroken 1 := ⟨(wsl_72 _ (List.mem_of_getElem? (i := 4) rfl)), (wsl_72 _ (List.mem_of_getElem? (i := 5) rfl)), (wsl_1 _ (List.mem_of_getElem? (i := 5) rfl)), (wsl_72 _ (List.mem_of_getElem? (i := 6) rfl)), by decide +kernel⟩
noncomputable def fX12_isBroken_b31 (h : hH) (a0 a1 l3 : Int) : Option ((Int × Int) ⊕ (Int × hH)) :=
  some (.inl (1, w32 (l3 + 1)))
noncomputable def fX12_isBroken_s9 (h : hH) (a0 a1 : Int) : Int × Int → Option ((Int × Int) ⊕ (Int × hH)) := fun (l2, l3) =>
  if l3 < h a0 26 then
    if l2 = 0 then
      (aget h (h a0 25) l3).bind fun v26 =>
      if v26 = a1 then
        fX12_isBroken_b31 h a0 a1 l3
      else
        some (.inl (0, w32 (l3 + 1)))
    else
      fX12_isBroken_b31 h a0 a1 l3
  else
    some (.inr ((l2, h)))
noncomputable def fX12_isBroken (h : hH) (a0 a1 : Int) : Option (Int × hH) :=
  (fX12_judgesAll h a0 1).bind fun h2 =>
  lpO (fX12_isBroken_s9 h2 a0 a1) (0, 0)
section M_X12_isBroken
variable {p : Program} {l : Launch} {e : Env} {R : Room} {s : State} {m : MethodId} {args : Array Value} {below : List Frame} {meth : Method} {c : Code} {D : va_G} {G : gG} {A : Nat → Prop} {H0 : Heap} {n0 : Int} {x : Option vV × hH} {h : hH}
set_option maxRecDepth 100000 in
set_option maxHeartbeats 4000000 in
theorem oX12_isBroken_b31 {a0 a1 l3 : Int} {K : (Int × Int) ⊕ (Int × hH) → Prop} (k0 : ∀ r, K (.inr (r)) → x = (some (2, r.1), r.2)) (k1 : ∀ (l2 : Int) (l3 : Int), K (.inl (l2, l3)) → Wq p l e R s m args below meth c D G A H0 true n0 M_X12_isBroken x 0 0 9 [(0, (22, a0)), (1, (0, a1)), (2, (2, l2)), (3, (0, l3))] [] h) {r : (Int × Int) ⊕ (Int × hH)} (hr : fX12_isBroken_b31 h a0 a1 l3 = some r) (hk : K r) : Wq p l e R s m args below meth c D G A H0 true n0 M_X12_isBroken x 0 0 31 [(0, (22, a0)), (1, (0, a1)), (3, (0, l3))] [] h := by
  unfold fX12_isBroken_b31 at hr
  refine r_iconst dX12_isBroken_31 (by decide) ?_
  refine r_goto dX12_isBroken_32 (tgt := 36) (by decide) ?_
  refine r_istore_n dX12_isBroken_36 rfl (Or.inl rfl) (by decide) (lv' := [(2, (0, 1)), (0, (22, a0)), (1, (0, a1)), (3, (0, l3))]) rfl ?_
  refine r_iinc (k := 3) (v := l3) dX12_isBroken_37 rfl (by decide) (lv' := [(3, (0, w32 (l3 + 1))), (2, (0, 1)), (0, (22, a0)), (1, (0, a1))]) rfl ?_
  refine r_goto dX12_isBroken_40 (tgt := 9) (by decide) ?_
  refine r_lcast 1 (v := (0, 1)) (w := (2, 1)) rfl cz (fun _ => Or.inr rfl) (lv' := [(3, (0, w32 (l3 + 1))), (2, (2, 1)), (0, (22, a0)), (1, (0, a1))]) rfl ?_
  refine r_sub [2, 3, 1, 0] (lv' := [(0, (22, a0)), (1, (0, a1)), (2, (2, 1)), (3, (0, w32 (l3 + 1)))]) rfl ?_
  obtain rfl := Option.some.inj hr
  exact k1 _ _ hk
set_option maxRecDepth 100000 in
set_option maxHeartbeats 4000000 in
theorem oX12_isBroken_s9 {a0 a1 l2 l3 : Int} {K : (Int × Int) ⊕ (Int × hH) → Prop} (k0 : ∀ r, K (.inr (r)) → x = (some (2, r.1), r.2)) (k1 : ∀ (l2 : Int) (l3 : Int), K (.inl (l2, l3)) → Wq p l e R s m args below meth c D G A H0 true n0 M_X12_isBroken x 0 0 9 [(0, (22, a0)), (1, (0, a1)), (2, (2, l2)), (3, (0, l3))] [] h) {r : (Int × Int) ⊕ (Int × hH)} (hr : fX12_isBroken_s9 h a0 a1 (l2, l3) = some r) (hk : K r) : Wq p l e R s m args below meth c D G A H0 true n0 M_X12_isBroken x 0 0 9 [(0, (22, a0)), (1, (0, a1)), (2, (2, l2)), (3, (0, l3))] [] h := by
  unfold fX12_isBroken_s9 at hr
  refine r_iload_n dX12_isBroken_9 rfl 3 rfl (Or.inl rfl) ?_
  refine r_aload_n dX12_isBroken_10 rfl 0 rfl (nl rfl) ?_
  refine r_get 12 26 (o := a0) (w := (0, h a0 26)) (T := TX12) (ref := "FollowingRefsModel") rfl (by decide) rfl (by decide) inlX12 (wsl_42 _ (List.mem_of_getElem? (i := 7) rfl)) rfl dX12_isBroken_11 rfl ?_
  refine r_icmp_ge dX12_isBroken_14 (tgt := 43) (by decide) (fun hc => ?_) (fun hc => ?_)
  · have hr := ifn hr hc
    refine r_iload_n dX12_isBroken_43 rfl 2 rfl (Or.inr rfl) ?_
    obtain rfl := Option.some.inj hr
    exact r_ret dX12_isBroken_44 rfl (Or.inr ⟨rfl, rfl⟩) (k0 _ hk) ⟨rfl, rfl⟩
  · have hr := ifp hr hc
    refine r_iload_n dX12_isBroken_17 rfl 2 rfl (Or.inr rfl) ?_
    refine r_scast 0 (v := (2, l2)) (w := (0, l2)) rfl zc hTz (st' := [(0, l2)]) rfl ?_
    refine r_if_ne dX12_isBroken_18 (tgt := 31) (by decide) (fun hc => ?_) (fun hc => ?_)
    · have hr := ifn hr hc
      refine r_sub [0, 1, 3] (lv' := [(0, (22, a0)), (1, (0, a1)), (3, (0, l3))]) rfl ?_
      exact oX12_isBroken_b31 (K := K) (fun r z => k0 r z) (fun _ _ z => k1 _ _ z) hr hk
    · have hr := ifp hr hc
      refine r_aload_n dX12_isBroken_21 rfl 0 rfl (nl rfl) ?_
      refine r_get 12 25 (o := a0) (w := (50, h a0 25)) (T := TX12) (ref := "FollowingRefsModel") rfl (by decide) rfl (by decide) inlX12 (wsl_7 _ (List.mem_of_getElem? (i := 16) rfl)) rfl dX12_isBroken_22 rfl ?_
      refine r_iload_n dX12_isBroken_25 rfl 3 rfl (Or.inl rfl) ?_
      obtain ⟨v26, hg26, hr⟩ := bnd hr
      refine r_iald dX12_isBroken_26 hg26 ?_
      refine r_iload_n dX12_isBroken_27 rfl 1 rfl (Or.inl rfl) ?_
      refine r_icmp_ne dX12_isBroken_28 (tgt := 35) (by decide) (fun hc => ?_) (fun hc => ?_)
      · have hr := ifn hr hc
        refine r_iconst dX12_isBroken_35 (by decide) ?_
        refine r_istore_n dX12_isBroken_36 rfl (Or.inl rfl) (by decide) (lv' := [(2, (0, 0)), (0, (22, a0)), (1, (0, a1)), (3, (0, l3))]) rfl ?_
        refine r_iinc (k := 3) (v := l3) dX12_isBroken_37 rfl (by decide) (lv' := [(3, (0, w32 (l3 + 1))), (2, (0, 0)), (0, (22, a0)), (1, (0, a1))]) rfl ?_
        refine r_goto dX12_isBroken_40 (tgt := 9) (by decide) ?_
        refine r_lcast 1 (v := (0, 0)) (w := (2, 0)) rfl cz (fun _ => Or.inl rfl) (lv' := [(3, (0, w32 (l3 + 1))), (2, (2, 0)), (0, (22, a0)), (1, (0, a1))]) rfl ?_
        refine r_sub [2, 3, 1, 0] (lv' := [(0, (22, a0)), (1, (0, a1)), (2, (2, 0)), (3, (0, w32 (l3 + 1)))]) rfl ?_
        obtain rfl := Option.some.inj hr
        exact k1 _ _ hk
      · have hr := ifp hr hc
        refine r_sub [0, 1, 3] (lv' := [(0, (22, a0)), (1, (0, a1)), (3, (0, l3))]) rfl ?_
        exact oX12_isBroken_b31 (K := K) (fun r z => k0 r z) (fun _ _ z => k1 _ _ z) hr hk
set_option maxRecDepth 100000 in
set_option maxHeartbeats 4000000 in
theorem oX12_isBroken_b0 {a0 a1 : Int} {K : Int × hH → Prop} (k0 : ∀ r, K (r) → x = (some (2, r.1), r.2)) {r : Int × hH} (hr : fX12_isBroken h a0 a1 = some r) (hk : K r) : Wq p l e R s m args below meth c D G A H0 true n0 M_X12_isBroken x 0 0 0 [(0, (22, a0)), (1, (0, a1))] [] h := by
  unfold fX12_isBroken at hr
  refine r_aload_n dX12_isBroken_0 rfl 0 rfl (nl rfl) ?_
  refine r_iconst dX12_isBroken_1 (by decide) ?_
  refine r_scast 0 (v := (0, 1)) (w := (2, 1)) rfl cz (fun _ => Or.inr rfl) (st' := [(2, 1), (22, a0)]) rfl ?_
  obtain ⟨h2, hg2, hr⟩ := bnd hr
  refine k_V (ci := 12) (o := a0) (T := TX12) (as := [(2, 1)]) (rest := []) (X := (none, h2)) (oX12_judgesAll hg2) gX12_judgesAll rfl (by decide) rfl (wsl_45 _ (List.mem_of_getElem? (i := 8) rfl)) rfl dX12_isBroken_2 rfl ?_
  refine r_iconst dX12_isBroken_5 (by decide) ?_
  refine r_istore_n dX12_isBroken_6 rfl (Or.inl rfl) (by decide) (lv' := [(2, (0, 0)), (0, (22, a0)), (1, (0, a1))]) rfl ?_
  refine r_iconst dX12_isBroken_7 (by decide) ?_
  refine r_istore_n dX12_isBroken_8 rfl (Or.inl rfl) (by decide) (lv' := [(3, (0, 0)), (2, (0, 0)), (0, (22, a0)), (1, (0, a1))]) rfl ?_
  refine r_lcast 1 (v := (0, 0)) (w := (2, 0)) rfl cz (fun _ => Or.inl rfl) (lv' := [(3, (0, 0)), (2, (2, 0)), (0, (22, a0)), (1, (0, a1))]) rfl ?_
  refine r_sub [2, 3, 1, 0] (lv' := [(0, (22, a0)), (1, (0, a1)), (2, (2, 0)), (3, (0, 0))]) rfl ?_
  exact lp_ok (w := fun (q : Int × Int) => Wq p l e R s m args below meth c D G A H0 true n0 M_X12_isBroken x 0 0 9 [(0, (22, a0)), (1, (0, a1)), (2, (2, q.1)), (3, (0, q.2))] [] (h2)) (K := K) (fun ⟨q0, q1⟩ r z1 z2 => oX12_isBroken_s9 (K := Sum.elim (fun (q : Int × Int) => Wq p l e R s m args below meth c D G A H0 true n0 M_X12_isBroken x 0 0 9 [(0, (22, a0)), (1, (0, a1)), (2, (2, q.1)), (3, (0, q.2))] [] (h2)) (K)) (fun r z => k0 r z) (fun _ _ z => z) z1 z2) hr hk
end M_X12_isBroken
theorem oX12_isBroken {l : Launch} {D : va_G} {G : gG} {h : hH} {a0 a1 : Int} {r : Int × hH} (hr : fX12_isBroken h a0 a1 = some r) : Ctr l D G true yX12_isBroken M_X12_isBroken [(22, a0), (0, a1)] h (some (2, r.1), r.2) :=
  Ctr_of (by decide) rfl (fun z => by cases z) (nl rfl) (fun {p e R s m args below meth c A H0} => by
    exact oX12_isBroken_b0 (K := fun z9 => z9 = r) (fun r9 z => by rw [z]) hr rfl)
/-! X12_isBare -/
theorem dX12_isBare_0 : decode cX12_isBare 0 = .ok (.iconst 0, 1) := by decide +kernel
theorem dX12_isBare_1 : decode cX12_isBare 1 = .ok (.istore_n 2, 1) := by decide +kernel
theorem dX12_isBare_2 : decode cX12_isBare 2 = .ok (.iconst 0, 1) := by decide +kernel
theorem dX12_isBare_3 : decode cX12_isBare 3 = .ok (.istore_n 3, 1) := by decide +kernel
theorem dX12_isBare_4 : decode cX12_isBare 4 = .ok (.iload_n 3, 1) := by decide +kernel
theorem dX12_isBare_5 : decode cX12_isBare 5 = .ok (.aload_n 0, 1) := by decide +kernel
theorem dX12_isBare_6 : decode cX12_isBare 6 = .ok (.getfield 33, 3) := by decide +kernel
theorem dX12_isBare_9 : decode cX12_isBare 9 = .ok (.iconst 4, 1) := by decide +kernel
theorem dX12_isBare_10 : decode cX12_isBare 10 = .ok (.aload_n 0, 1) := by decide +kernel
theorem dX12_isBare_11 : decode cX12_isBare 11 = .ok (.getfield 33, 3) := by decide +kernel
theorem dX12_isBare_14 : decode cX12_isBare 14 = .ok (.sipush 249, 3) := by decide +kernel
theorem dX12_isBare_17 : decode cX12_isBare 17 = .ok (.iload_n 1, 1) := by decide +kernel
theorem dX12_isBare_18 : decode cX12_isBare 18 = .ok (.iadd, 1) := by decide +kernel
theorem dX12_isBare_19 : decode cX12_isBare 19 = .ok (.iaload, 1) := by decide +kernel
theorem dX12_isBare_20 : decode cX12_isBare 20 = .ok (.iadd, 1) := by decide +kernel
theorem dX12_isBare_21 : decode cX12_isBare 21 = .ok (.iaload, 1) := by decide +kernel
theorem dX12_isBare_22 : decode cX12_isBare 22 = .ok (.if_icmp .ge 28, 3) := by decide +kernel
theorem dX12_isBare_25 : decode cX12_isBare 25 = .ok (.iload_n 2, 1) := by decide +kernel
theorem dX12_isBare_26 : decode cX12_isBare 26 = .ok (.ifCond .ne 12, 3) := by decide +kernel
theorem dX12_isBare_29 : decode cX12_isBare 29 = .ok (.aload_n 0, 1) := by decide +kernel
theorem dX12_isBare_30 : decode cX12_isBare 30 = .ok (.iload_n 1, 1) := by decide +kernel
theorem dX12_isBare_31 : decode cX12_isBare 31 = .ok (.iload_n 3, 1) := by decide +kernel
theorem dX12_isBare_32 : decode cX12_isBare 32 = .ok (.invokevirtual 320, 3) := by decide +kernel
theorem dX12_isBare_35 : decode cX12_isBare 35 = .ok (.ifCond .ge 7, 3) := by decide +kernel
theorem dX12_isBare_38 : decode cX12_isBare 38 = .ok (.iconst 1, 1) := by decide +kernel
theorem dX12_isBare_39 : decode cX12_isBare 39 = .ok (.goto 4, 3) := by decide +kernel
theorem dX12_isBare_42 : decode cX12_isBare 42 = .ok (.iconst 0, 1) := by decide +kernel
theorem dX12_isBare_43 : decode cX12_isBare 43 = .ok (.istore_n 2, 1) := by decide +kernel
theorem dX12_isBare_44 : decode cX12_isBare 44 = .ok (.iinc 3 1, 3) := by decide +kernel
theorem dX12_isBare_47 : decode cX12_isBare 47 = .ok (.goto (-43), 3) := by decide +kernel
theorem dX12_isBare_50 : decode cX12_isBare 50 = .ok (.iload_n 2, 1) := by decide +kernel
theorem dX12_isBare_51 : decode cX12_isBare 51 = .ok (.ireturn, 1) := by decide +kernel
abbrev M_X12_isBare : mM := (cX12_isBare, 4, RX12, some .boolean, false, 1, 22, 0, 0)
theorem gX12_isBare : cI yX12_isBare M_X12_isBare 1 := ⟨(wsl_72 _ (List.mem_of_getElem? (i := 0) rfl)), (wsl_72 _ (List.mem_of_getElem? (i := 1) rfl)), (wsl_1 _ (List.mem_of_getElem? (i := 5) rfl)), (wsl_72 _ (List.mem_of_getElem? (i := 2) rfl)), by decide +kernel⟩
noncomputable def fX12_isBare_b38 (h : hH) (a0 a1 l3 : Int) : Option ((Int × Int) ⊕ (Int)) :=
  some (.inl (1, w32 (l3 + 1)))
noncomputable def fX12_isBare_s4 (h : hH) (a0 a1 : Int) : Int × Int → Option ((Int × Int) ⊕ (Int)) := fun (l2, l3) =>
  (aget h (h a0 6) (w32 (249 + a1))).bind fun v19 =>
  (aget h (h a0 6) (w32 (4 + v19))).bind fun v21 =>
  if l3 < v21 then
    if l2 = 0 then
      (fX12_cellOf h a0 a1 l3).bind fun r32 =>
      if r32 < 0 then
        fX12_isBare_b38 h a0 a1 l3
      else
        some (.inl (0, w32 (l3 + 1)))
    else
      fX12_isBare_b38 h a0 a1 l3
  else
    some (.inr (l2))
noncomputable def fX12_isBare (h : hH) (a0 a1 : Int) : Option (Int) :=
  lpO (fX12_isBare_s4 h a0 a1) (0, 0)
section M_X12_isBare
variable {p : Program} {l : Launch} {e : Env} {R : Room} {s : State} {m : MethodId} {args : Array Value} {below : List Frame} {meth : Method} {c : Code} {D : va_G} {G : gG} {A : Nat → Prop} {H0 : Heap} {n0 : Int} {x : Option vV × hH} {h : hH}
set_option maxRecDepth 100000 in
set_option maxHeartbeats 4000000 in
theorem oX12_isBare_b38 {a0 a1 l3 : Int} {K : (Int × Int) ⊕ (Int) → Prop} (k0 : ∀ r, K (.inr (r)) → x = (some (2, r), h)) (k1 : ∀ (l2 : Int) (l3 : Int), K (.inl (l2, l3)) → Wq p l e R s m args below meth c D G A H0 true n0 M_X12_isBare x 0 0 4 [(0, (22, a0)), (1, (0, a1)), (2, (2, l2)), (3, (0, l3))] [] h) {r : (Int × Int) ⊕ (Int)} (hr : fX12_isBare_b38 h a0 a1 l3 = some r) (hk : K r) : Wq p l e R s m args below meth c D G A H0 true n0 M_X12_isBare x 0 0 38 [(0, (22, a0)), (1, (0, a1)), (3, (0, l3))] [] h := by
  unfold fX12_isBare_b38 at hr
  refine r_iconst dX12_isBare_38 (by decide) ?_
  refine r_goto dX12_isBare_39 (tgt := 43) (by decide) ?_
  refine r_istore_n dX12_isBare_43 rfl (Or.inl rfl) (by decide) (lv' := [(2, (0, 1)), (0, (22, a0)), (1, (0, a1)), (3, (0, l3))]) rfl ?_
  refine r_iinc (k := 3) (v := l3) dX12_isBare_44 rfl (by decide) (lv' := [(3, (0, w32 (l3 + 1))), (2, (0, 1)), (0, (22, a0)), (1, (0, a1))]) rfl ?_
  refine r_goto dX12_isBare_47 (tgt := 4) (by decide) ?_
  refine r_lcast 1 (v := (0, 1)) (w := (2, 1)) rfl cz (fun _ => Or.inr rfl) (lv' := [(3, (0, w32 (l3 + 1))), (2, (2, 1)), (0, (22, a0)), (1, (0, a1))]) rfl ?_
  refine r_sub [2, 3, 1, 0] (lv' := [(0, (22, a0)), (1, (0, a1)), (2, (2, 1)), (3, (0, w32 (l3 + 1)))]) rfl ?_
  obtain rfl := Option.some.inj hr
  exact k1 _ _ hk
set_option maxRecDepth 100000 in
set_option maxHeartbeats 4000000 in
theorem oX12_isBare_s4 {a0 a1 l2 l3 : Int} {K : (Int × Int) ⊕ (Int) → Prop} (k0 : ∀ r, K (.inr (r)) → x = (some (2, r), h)) (k1 : ∀ (l2 : Int) (l3 : Int), K (.inl (l2, l3)) → Wq p l e R s m args below meth c D G A H0 true n0 M_X12_isBare x 0 0 4 [(0, (22, a0)), (1, (0, a1)), (2, (2, l2)), (3, (0, l3))] [] h) {r : (Int × Int) ⊕ (Int)} (hr : fX12_isBare_s4 h a0 a1 (l2, l3) = some r) (hk : K r) : Wq p l e R s m args below meth c D G A H0 true n0 M_X12_isBare x 0 0 4 [(0, (22, a0)), (1, (0, a1)), (2, (2, l2)), (3, (0, l3))] [] h := by
  unfold fX12_isBare_s4 at hr
  refine r_iload_n dX12_isBare_4 rfl 3 rfl (Or.inl rfl) ?_
  refine r_aload_n dX12_isBare_5 rfl 0 rfl (nl rfl) ?_
  refine r_get 12 6 (o := a0) (w := (50, h a0 6)) (T := TX12) (ref := "FollowingRefsModel") rfl (by decide) rfl (by decide) inlX12 (wsl_7 _ (List.mem_of_getElem? (i := 8) rfl)) rfl dX12_isBare_6 rfl ?_
  refine r_iconst dX12_isBare_9 (by decide) ?_
  refine r_aload_n dX12_isBare_10 rfl 0 rfl (nl rfl) ?_
  refine r_get 12 6 (o := a0) (w := (50, h a0 6)) (T := TX12) (ref := "FollowingRefsModel") rfl (by decide) rfl (by decide) inlX12 (wsl_7 _ (List.mem_of_getElem? (i := 8) rfl)) rfl dX12_isBare_11 rfl ?_
  refine r_sipush dX12_isBare_14 (by decide) (by decide) ?_
  refine r_iload_n dX12_isBare_17 rfl 1 rfl (Or.inl rfl) ?_
  refine r_iadd dX12_isBare_18 ?_
  obtain ⟨v19, hg19, hr⟩ := bnd hr
  refine r_iald dX12_isBare_19 hg19 ?_
  refine r_iadd dX12_isBare_20 ?_
  obtain ⟨v21, hg21, hr⟩ := bnd hr
  refine r_iald dX12_isBare_21 hg21 ?_
  refine r_icmp_ge dX12_isBare_22 (tgt := 50) (by decide) (fun hc => ?_) (fun hc => ?_)
  · have hr := ifn hr hc
    refine r_iload_n dX12_isBare_50 rfl 2 rfl (Or.inr rfl) ?_
    obtain rfl := Option.some.inj hr
    exact r_ret dX12_isBare_51 rfl (Or.inr ⟨rfl, rfl⟩) (k0 _ hk) ⟨rfl, rfl⟩
  · have hr := ifp hr hc
    refine r_iload_n dX12_isBare_25 rfl 2 rfl (Or.inr rfl) ?_
    refine r_scast 0 (v := (2, l2)) (w := (0, l2)) rfl zc hTz (st' := [(0, l2)]) rfl ?_
    refine r_if_ne dX12_isBare_26 (tgt := 38) (by decide) (fun hc => ?_) (fun hc => ?_)
    · have hr := ifn hr hc
      refine r_sub [0, 1, 3] (lv' := [(0, (22, a0)), (1, (0, a1)), (3, (0, l3))]) rfl ?_
      exact oX12_isBare_b38 (K := K) (fun r z => k0 r z) (fun _ _ z => k1 _ _ z) hr hk
    · have hr := ifp hr hc
      refine r_aload_n dX12_isBare_29 rfl 0 rfl (nl rfl) ?_
      refine r_iload_n dX12_isBare_30 rfl 1 rfl (Or.inl rfl) ?_
      refine r_iload_n dX12_isBare_31 rfl 3 rfl (Or.inl rfl) ?_
      obtain ⟨r32, hg32, hr⟩ := bnd hr
      refine k_V (ci := 12) (o := a0) (T := TX12) (as := [(0, a1), (0, l3)]) (rest := []) (X := (some (0, r32), h)) (oX12_cellOf hg32) gX12_cellOf rfl (by decide) rfl (wsl_42 _ (List.mem_of_getElem? (i := 17) rfl)) rfl dX12_isBare_32 rfl ?_
      refine r_if_ge dX12_isBare_35 (tgt := 42) (by decide) (fun hc => ?_) (fun hc => ?_)
      · have hr := ifn hr hc
        refine r_iconst dX12_isBare_42 (by decide) ?_
        refine r_istore_n dX12_isBare_43 rfl (Or.inl rfl) (by decide) (lv' := [(2, (0, 0)), (0, (22, a0)), (1, (0, a1)), (3, (0, l3))]) rfl ?_
        refine r_iinc (k := 3) (v := l3) dX12_isBare_44 rfl (by decide) (lv' := [(3, (0, w32 (l3 + 1))), (2, (0, 0)), (0, (22, a0)), (1, (0, a1))]) rfl ?_
        refine r_goto dX12_isBare_47 (tgt := 4) (by decide) ?_
        refine r_lcast 1 (v := (0, 0)) (w := (2, 0)) rfl cz (fun _ => Or.inl rfl) (lv' := [(3, (0, w32 (l3 + 1))), (2, (2, 0)), (0, (22, a0)), (1, (0, a1))]) rfl ?_
        refine r_sub [2, 3, 1, 0] (lv' := [(0, (22, a0)), (1, (0, a1)), (2, (2, 0)), (3, (0, w32 (l3 + 1)))]) rfl ?_
        obtain rfl := Option.some.inj hr
        exact k1 _ _ hk
      · have hr := ifp hr hc
        refine r_sub [0, 1, 3] (lv' := [(0, (22, a0)), (1, (0, a1)), (3, (0, l3))]) rfl ?_
        exact oX12_isBare_b38 (K := K) (fun r z => k0 r z) (fun _ _ z => k1 _ _ z) hr hk
set_option maxRecDepth 100000 in
set_option maxHeartbeats 4000000 in
theorem oX12_isBare_b0 {a0 a1 : Int} {K : Int → Prop} (k0 : ∀ r, K (r) → x = (some (2, r), h)) {r : Int} (hr : fX12_isBare h a0 a1 = some r) (hk : K r) : Wq p l e R s m args below meth c D G A H0 true n0 M_X12_isBare x 0 0 0 [(0, (22, a0)), (1, (0, a1))] [] h := by
  unfold fX12_isBare at hr
  refine r_iconst dX12_isBare_0 (by decide) ?_
  refine r_istore_n dX12_isBare_1 rfl (Or.inl rfl) (by decide) (lv' := [(2, (0, 0)), (0, (22, a0)), (1, (0, a1))]) rfl ?_
  refine r_iconst dX12_isBare_2 (by decide) ?_
  refine r_istore_n dX12_isBare_3 rfl (Or.inl rfl) (by decide) (lv' := [(3, (0, 0)), (2, (0, 0)), (0, (22, a0)), (1, (0, a1))]) rfl ?_
  refine r_lcast 1 (v := (0, 0)) (w := (2, 0)) rfl cz (fun _ => Or.inl rfl) (lv' := [(3, (0, 0)), (2, (2, 0)), (0, (22, a0)), (1, (0, a1))]) rfl ?_
  refine r_sub [2, 3, 1, 0] (lv' := [(0, (22, a0)), (1, (0, a1)), (2, (2, 0)), (3, (0, 0))]) rfl ?_
  exact lp_ok (w := fun (q : Int × Int) => Wq p l e R s m args below meth c D G A H0 true n0 M_X12_isBare x 0 0 4 [(0, (22, a0)), (1, (0, a1)), (2, (2, q.1)), (3, (0, q.2))] [] (h)) (K := K) (fun ⟨q0, q1⟩ r h1 h2 => oX12_isBare_s4 (K := Sum.elim (fun (q : Int × Int) => Wq p l e R s m args below meth c D G A H0 true n0 M_X12_isBare x 0 0 4 [(0, (22, a0)), (1, (0, a1)), (2, (2, q.1)), (3, (0, q.2))] [] (h)) (K)) (fun r z => k0 r z) (fun _ _ z => z) h1 h2) hr hk
end M_X12_isBare
theorem oX12_isBare {l : Launch} {D : va_G} {G : gG} {h : hH} {a0 a1 : Int} {r : Int} (hr : fX12_isBare h a0 a1 = some r) : Ctr l D G true yX12_isBare M_X12_isBare [(22, a0), (0, a1)] h (some (2, r), h) :=
  Ctr_of (by decide) rfl (fun z => by cases z) (nl rfl) (fun {p e R s m args below meth c A H0} => by
    exact oX12_isBare_b0 (K := fun z9 => z9 = r) (fun r9 z => by rw [z]) hr rfl)
/-! X12_isLeaf -/
theorem dX12_isLeaf_0 : decode cX12_isLeaf 0 = .ok (.iload_n 2, 1) := by decide +kernel
theorem dX12_isLeaf_1 : decode cX12_isLeaf 1 = .ok (.tableswitch 78 0 3 #[31, 37, 51, 57], 31) := by decide +kernel
theorem dX12_isLeaf_32 : decode cX12_isLeaf 32 = .ok (.aload_n 0, 1) := by decide +kernel
theorem dX12_isLeaf_33 : decode cX12_isLeaf 33 = .ok (.iload_n 1, 1) := by decide +kernel
theorem dX12_isLeaf_34 : decode cX12_isLeaf 34 = .ok (.invokevirtual 588, 3) := by decide +kernel
theorem dX12_isLeaf_37 : decode cX12_isLeaf 37 = .ok (.ireturn, 1) := by decide +kernel
theorem dX12_isLeaf_38 : decode cX12_isLeaf 38 = .ok (.aload_n 0, 1) := by decide +kernel
theorem dX12_isLeaf_39 : decode cX12_isLeaf 39 = .ok (.iload_n 1, 1) := by decide +kernel
theorem dX12_isLeaf_40 : decode cX12_isLeaf 40 = .ok (.invokevirtual 499, 3) := by decide +kernel
theorem dX12_isLeaf_43 : decode cX12_isLeaf 43 = .ok (.ifCond .le 7, 3) := by decide +kernel
theorem dX12_isLeaf_46 : decode cX12_isLeaf 46 = .ok (.iconst 1, 1) := by decide +kernel
theorem dX12_isLeaf_47 : decode cX12_isLeaf 47 = .ok (.goto 4, 3) := by decide +kernel
theorem dX12_isLeaf_50 : decode cX12_isLeaf 50 = .ok (.iconst 0, 1) := by decide +kernel
theorem dX12_isLeaf_51 : decode cX12_isLeaf 51 = .ok (.ireturn, 1) := by decide +kernel
theorem dX12_isLeaf_52 : decode cX12_isLeaf 52 = .ok (.aload_n 0, 1) := by decide +kernel
theorem dX12_isLeaf_53 : decode cX12_isLeaf 53 = .ok (.iload_n 1, 1) := by decide +kernel
theorem dX12_isLeaf_54 : decode cX12_isLeaf 54 = .ok (.invokevirtual 591, 3) := by decide +kernel
theorem dX12_isLeaf_57 : decode cX12_isLeaf 57 = .ok (.ireturn, 1) := by decide +kernel
theorem dX12_isLeaf_58 : decode cX12_isLeaf 58 = .ok (.aload_n 0, 1) := by decide +kernel
theorem dX12_isLeaf_59 : decode cX12_isLeaf 59 = .ok (.getfield 33, 3) := by decide +kernel
theorem dX12_isLeaf_62 : decode cX12_isLeaf 62 = .ok (.sipush 249, 3) := by decide +kernel
theorem dX12_isLeaf_65 : decode cX12_isLeaf 65 = .ok (.iload_n 1, 1) := by decide +kernel
theorem dX12_isLeaf_66 : decode cX12_isLeaf 66 = .ok (.iadd, 1) := by decide +kernel
theorem dX12_isLeaf_67 : decode cX12_isLeaf 67 = .ok (.iaload, 1) := by decide +kernel
theorem dX12_isLeaf_68 : decode cX12_isLeaf 68 = .ok (.iload 4, 2) := by decide +kernel
theorem dX12_isLeaf_70 : decode cX12_isLeaf 70 = .ok (.if_icmp .ne 7, 3) := by decide +kernel
theorem dX12_isLeaf_73 : decode cX12_isLeaf 73 = .ok (.iconst 1, 1) := by decide +kernel
theorem dX12_isLeaf_74 : decode cX12_isLeaf 74 = .ok (.goto 4, 3) := by decide +kernel
theorem dX12_isLeaf_77 : decode cX12_isLeaf 77 = .ok (.iconst 0, 1) := by decide +kernel
theorem dX12_isLeaf_78 : decode cX12_isLeaf 78 = .ok (.ireturn, 1) := by decide +kernel
theorem dX12_isLeaf_79 : decode cX12_isLeaf 79 = .ok (.iload_n 2, 1) := by decide +kernel
theorem dX12_isLeaf_80 : decode cX12_isLeaf 80 = .ok (.iconst 4, 1) := by decide +kernel
theorem dX12_isLeaf_81 : decode cX12_isLeaf 81 = .ok (.if_icmp .ne 7, 3) := by decide +kernel
theorem dX12_isLeaf_84 : decode cX12_isLeaf 84 = .ok (.iconst 0, 1) := by decide +kernel
theorem dX12_isLeaf_85 : decode cX12_isLeaf 85 = .ok (.goto 25, 3) := by decide +kernel
theorem dX12_isLeaf_88 : decode cX12_isLeaf 88 = .ok (.iload_n 2, 1) := by decide +kernel
theorem dX12_isLeaf_89 : decode cX12_isLeaf 89 = .ok (.bipush 100, 2) := by decide +kernel
theorem dX12_isLeaf_91 : decode cX12_isLeaf 91 = .ok (.isub, 1) := by decide +kernel
theorem dX12_isLeaf_92 : decode cX12_isLeaf 92 = .ok (.iconst 3, 1) := by decide +kernel
theorem dX12_isLeaf_93 : decode cX12_isLeaf 93 = .ok (.aload_n 0, 1) := by decide +kernel
theorem dX12_isLeaf_94 : decode cX12_isLeaf 94 = .ok (.getfield 33, 3) := by decide +kernel
theorem dX12_isLeaf_97 : decode cX12_isLeaf 97 = .ok (.sipush 249, 3) := by decide +kernel
theorem dX12_isLeaf_100 : decode cX12_isLeaf 100 = .ok (.iload_n 1, 1) := by decide +kernel
theorem dX12_isLeaf_101 : decode cX12_isLeaf 101 = .ok (.iadd, 1) := by decide +kernel
theorem dX12_isLeaf_102 : decode cX12_isLeaf 102 = .ok (.iaload, 1) := by decide +kernel
theorem dX12_isLeaf_103 : decode cX12_isLeaf 103 = .ok (.imul, 1) := by decide +kernel
theorem dX12_isLeaf_104 : decode cX12_isLeaf 104 = .ok (.ishr, 1) := by decide +kernel
theorem dX12_isLeaf_105 : decode cX12_isLeaf 105 = .ok (.bipush 7, 2) := by decide +kernel
theorem dX12_isLeaf_107 : decode cX12_isLeaf 107 = .ok (.iand, 1) := by decide +kernel
theorem dX12_isLeaf_108 : decode cX12_isLeaf 108 = .ok (.iconst 1, 1) := by decide +kernel
theorem dX12_isLeaf_109 : decode cX12_isLeaf 109 = .ok (.isub, 1) := by decide +kernel
theorem dX12_isLeaf_110 : decode cX12_isLeaf 110 = .ok (.istore 5, 2) := by decide +kernel
theorem dX12_isLeaf_112 : decode cX12_isLeaf 112 = .ok (.iload_n 2, 1) := by decide +kernel
theorem dX12_isLeaf_113 : decode cX12_isLeaf 113 = .ok (.iconst 4, 1) := by decide +kernel
theorem dX12_isLeaf_114 : decode cX12_isLeaf 114 = .ok (.if_icmp .ne 7, 3) := by decide +kernel
theorem dX12_isLeaf_117 : decode cX12_isLeaf 117 = .ok (.iload_n 1, 1) := by decide +kernel
theorem dX12_isLeaf_118 : decode cX12_isLeaf 118 = .ok (.goto 19, 3) := by decide +kernel
theorem dX12_isLeaf_121 : decode cX12_isLeaf 121 = .ok (.iload 5, 2) := by decide +kernel
theorem dX12_isLeaf_123 : decode cX12_isLeaf 123 = .ok (.ifCond .ge 7, 3) := by decide +kernel
theorem dX12_isLeaf_126 : decode cX12_isLeaf 126 = .ok (.iconst (-1), 1) := by decide +kernel
theorem dX12_isLeaf_127 : decode cX12_isLeaf 127 = .ok (.goto 10, 3) := by decide +kernel
theorem dX12_isLeaf_130 : decode cX12_isLeaf 130 = .ok (.aload_n 0, 1) := by decide +kernel
theorem dX12_isLeaf_131 : decode cX12_isLeaf 131 = .ok (.iload_n 1, 1) := by decide +kernel
theorem dX12_isLeaf_132 : decode cX12_isLeaf 132 = .ok (.iload 5, 2) := by decide +kernel
theorem dX12_isLeaf_134 : decode cX12_isLeaf 134 = .ok (.invokevirtual 320, 3) := by decide +kernel
theorem dX12_isLeaf_137 : decode cX12_isLeaf 137 = .ok (.istore 6, 2) := by decide +kernel
theorem dX12_isLeaf_139 : decode cX12_isLeaf 139 = .ok (.iload 6, 2) := by decide +kernel
theorem dX12_isLeaf_141 : decode cX12_isLeaf 141 = .ok (.ifCond .lt 18, 3) := by decide +kernel
theorem dX12_isLeaf_144 : decode cX12_isLeaf 144 = .ok (.iload_n 3, 1) := by decide +kernel
theorem dX12_isLeaf_145 : decode cX12_isLeaf 145 = .ok (.iload 6, 2) := by decide +kernel
theorem dX12_isLeaf_147 : decode cX12_isLeaf 147 = .ok (.iload 4, 2) := by decide +kernel
theorem dX12_isLeaf_149 : decode cX12_isLeaf 149 = .ok (.invokestatic 336, 3) := by decide +kernel
theorem dX12_isLeaf_152 : decode cX12_isLeaf 152 = .ok (.ifCond .eq 7, 3) := by decide +kernel
theorem dX12_isLeaf_155 : decode cX12_isLeaf 155 = .ok (.iconst 1, 1) := by decide +kernel
theorem dX12_isLeaf_156 : decode cX12_isLeaf 156 = .ok (.goto 4, 3) := by decide +kernel
theorem dX12_isLeaf_159 : decode cX12_isLeaf 159 = .ok (.iconst 0, 1) := by decide +kernel
theorem dX12_isLeaf_160 : decode cX12_isLeaf 160 = .ok (.ireturn, 1) := by decide +kernel
abbrev M_X12_isLeaf : mM := (cX12_isLeaf, 7, RX12, some .boolean, false, 6, 142, 0, 0)
theorem gX12_isLeaf : cI yX12_isLeaf M_X12_isLeaf 4 := ⟨(wsl_71 _ (List.mem_of_getElem? (i := 20) rfl)), (wsl_71 _ (List.mem_of_getElem? (i := 21) rfl)), (wsl_1 _ (List.mem_of_getElem? (i := 5) rfl)), (wsl_71 _ (List.mem_of_getElem? (i := 22) rfl)), by decide +kernel⟩
noncomputable def fX12_isLeaf_b137 (h : hH) (a3 a4 s0 : Int) : Option (Int × hH) :=
  if s0 < 0 then
    some (0, h)
  else
    (fX12_isSo h a3 s0 a4).bind fun r149 =>
    if r149 = 0 then
      some (0, h)
    else
      some (1, h)
noncomputable def fX12_isLeaf_b110 (h : hH) (a0 a1 a2 a3 a4 s0 : Int) : Option (Int × hH) :=
  if a2 = 4 then
    fX12_isLeaf_b137 h a3 a4 a1
  else
    if s0 < 0 then
      fX12_isLeaf_b137 h a3 a4 (-1)
    else
      (fX12_cellOf h a0 a1 s0).bind fun r134 =>
      fX12_isLeaf_b137 h a3 a4 r134
noncomputable def fX12_isLeaf (h : hH) (a0 a1 a2 a3 a4 : Int) : Option (Int × hH) :=
  if a2 = 0 then
    (fX12_isBare h a0 a1).bind fun r34 =>
    some (r34, h)
  else
    if a2 = 1 then
      (fX12_referredTo h a0 a1).bind fun r40 =>
      if 0 < r40 then
        some (1, h)
      else
        some (0, h)
    else
      if a2 = 2 then
        (fX12_isBroken h a0 a1).bind fun q54 =>
        some (q54.1, q54.2)
      else
        if a2 = 3 then
          (aget h (h a0 6) (w32 (249 + a1))).bind fun v67 =>
          if v67 = a4 then
            some (1, h)
          else
            some (0, h)
        else
          if a2 = 4 then
            fX12_isLeaf_b110 h a0 a1 a2 a3 a4 0
          else
            (aget h (h a0 6) (w32 (249 + a1))).bind fun v102 =>
            fX12_isLeaf_b110 h a0 a1 a2 a3 a4 (w32 ((iadD (isrD (w32 (a2 - 100)) (w32 (3 * v102))) 7) - 1))
section M_X12_isLeaf
variable {p : Program} {l : Launch} {e : Env} {R : Room} {s : State} {m : MethodId} {args : Array Value} {below : List Frame} {meth : Method} {c : Code} {D : va_G} {G : gG} {A : Nat → Prop} {H0 : Heap} {n0 : Int} {x : Option vV × hH} {h : hH}
set_option maxRecDepth 100000 in
set_option maxHeartbeats 4000000 in
theorem oX12_isLeaf_b137 {a3 a4 s0 : Int} {K : Int × hH → Prop} (k0 : ∀ r, K (r) → x = (some (2, r.1), r.2)) {r : Int × hH} (hr : fX12_isLeaf_b137 h a3 a4 s0 = some r) (hk : K r) : Wq p l e R s m args below meth c D G A H0 true n0 M_X12_isLeaf x 0 0 137 [(3, (0, a3)), (4, (0, a4))] [(0, s0)] h := by
  unfold fX12_isLeaf_b137 at hr
  refine r_istore dX12_isLeaf_137 (Or.inl rfl) (by decide) (lv' := [(6, (0, s0)), (3, (0, a3)), (4, (0, a4))]) rfl ?_
  refine r_iload dX12_isLeaf_139 0 rfl (Or.inl rfl) ?_
  refine r_if_lt dX12_isLeaf_141 (tgt := 159) (by decide) (fun hc => ?_) (fun hc => ?_)
  · have hr := ifp hr hc
    refine r_iconst dX12_isLeaf_159 (by decide) ?_
    refine r_scast 0 (v := (0, 0)) (w := (2, 0)) rfl cz (fun _ => Or.inl rfl) (st' := [(2, 0)]) rfl ?_
    obtain rfl := Option.some.inj hr
    exact r_ret dX12_isLeaf_160 rfl (Or.inr ⟨rfl, rfl⟩) (k0 _ hk) ⟨rfl, rfl⟩
  · have hr := ifn hr hc
    refine r_iload_n dX12_isLeaf_144 rfl 1 rfl (Or.inl rfl) ?_
    refine r_iload dX12_isLeaf_145 0 rfl (Or.inl rfl) ?_
    refine r_iload dX12_isLeaf_147 2 rfl (Or.inl rfl) ?_
    obtain ⟨r149, hg149, hr⟩ := bnd hr
    refine k_S (as := [(0, a3), (0, s0), (0, a4)]) (rest := []) (X := (some (2, r149), h)) (oX12_isSo hg149) gX12_isSo rfl (wsl_43 _ (List.mem_of_getElem? (i := 13) rfl)) rfl dX12_isLeaf_149 rfl ?_
    refine r_scast 0 (v := (2, r149)) (w := (0, r149)) rfl zc hTz (st' := [(0, r149)]) rfl ?_
    refine r_if_eq dX12_isLeaf_152 (tgt := 159) (by decide) (fun hc => ?_) (fun hc => ?_)
    · have hr := ifp hr hc
      refine r_iconst dX12_isLeaf_159 (by decide) ?_
      refine r_scast 0 (v := (0, 0)) (w := (2, 0)) rfl cz (fun _ => Or.inl rfl) (st' := [(2, 0)]) rfl ?_
      obtain rfl := Option.some.inj hr
      exact r_ret dX12_isLeaf_160 rfl (Or.inr ⟨rfl, rfl⟩) (k0 _ hk) ⟨rfl, rfl⟩
    · have hr := ifn hr hc
      refine r_iconst dX12_isLeaf_155 (by decide) ?_
      refine r_goto dX12_isLeaf_156 (tgt := 160) (by decide) ?_
      refine r_scast 0 (v := (0, 1)) (w := (2, 1)) rfl cz (fun _ => Or.inr rfl) (st' := [(2, 1)]) rfl ?_
      obtain rfl := Option.some.inj hr
      exact r_ret dX12_isLeaf_160 rfl (Or.inr ⟨rfl, rfl⟩) (k0 _ hk) ⟨rfl, rfl⟩
set_option maxRecDepth 100000 in
set_option maxHeartbeats 4000000 in
theorem oX12_isLeaf_b110 {a0 a1 a2 a3 a4 s0 : Int} {K : Int × hH → Prop} (k0 : ∀ r, K (r) → x = (some (2, r.1), r.2)) {r : Int × hH} (hr : fX12_isLeaf_b110 h a0 a1 a2 a3 a4 s0 = some r) (hk : K r) : Wq p l e R s m args below meth c D G A H0 true n0 M_X12_isLeaf x 0 0 110 [(0, (22, a0)), (1, (0, a1)), (2, (0, a2)), (3, (0, a3)), (4, (0, a4))] [(0, s0)] h := by
  unfold fX12_isLeaf_b110 at hr
  refine r_istore dX12_isLeaf_110 (Or.inl rfl) (by decide) (lv' := [(5, (0, s0)), (0, (22, a0)), (1, (0, a1)), (2, (0, a2)), (3, (0, a3)), (4, (0, a4))]) rfl ?_
  refine r_iload_n dX12_isLeaf_112 rfl 3 rfl (Or.inl rfl) ?_
  refine r_iconst dX12_isLeaf_113 (by decide) ?_
  refine r_icmp_ne dX12_isLeaf_114 (tgt := 121) (by decide) (fun hc => ?_) (fun hc => ?_)
  · have hr := ifn hr hc
    refine r_iload dX12_isLeaf_121 0 rfl (Or.inl rfl) ?_
    refine r_if_ge dX12_isLeaf_123 (tgt := 130) (by decide) (fun hc => ?_) (fun hc => ?_)
    · have hr := ifn hr hc
      refine r_aload_n dX12_isLeaf_130 rfl 1 rfl (nl rfl) ?_
      refine r_iload_n dX12_isLeaf_131 rfl 2 rfl (Or.inl rfl) ?_
      refine r_iload dX12_isLeaf_132 0 rfl (Or.inl rfl) ?_
      obtain ⟨r134, hg134, hr⟩ := bnd hr
      refine k_V (ci := 12) (o := a0) (T := TX12) (as := [(0, a1), (0, s0)]) (rest := []) (X := (some (0, r134), h)) (oX12_cellOf hg134) gX12_cellOf rfl (by decide) rfl (wsl_42 _ (List.mem_of_getElem? (i := 17) rfl)) rfl dX12_isLeaf_134 rfl ?_
      refine r_sub [4, 5] (lv' := [(3, (0, a3)), (4, (0, a4))]) rfl ?_
      exact oX12_isLeaf_b137 (K := K) (fun r z => k0 r z) hr hk
    · have hr := ifp hr hc
      refine r_iconst dX12_isLeaf_126 (by decide) ?_
      refine r_goto dX12_isLeaf_127 (tgt := 137) (by decide) ?_
      refine r_sub [4, 5] (lv' := [(3, (0, a3)), (4, (0, a4))]) rfl ?_
      exact oX12_isLeaf_b137 (K := K) (fun r z => k0 r z) hr hk
  · have hr := ifp hr hc
    refine r_iload_n dX12_isLeaf_117 rfl 2 rfl (Or.inl rfl) ?_
    refine r_goto dX12_isLeaf_118 (tgt := 137) (by decide) ?_
    refine r_sub [4, 5] (lv' := [(3, (0, a3)), (4, (0, a4))]) rfl ?_
    exact oX12_isLeaf_b137 (K := K) (fun r z => k0 r z) hr hk
set_option maxRecDepth 100000 in
set_option maxHeartbeats 4000000 in
theorem oX12_isLeaf_b0 {a0 a1 a2 a3 a4 : Int} {K : Int × hH → Prop} (k0 : ∀ r, K (r) → x = (some (2, r.1), r.2)) {r : Int × hH} (hr : fX12_isLeaf h a0 a1 a2 a3 a4 = some r) (hk : K r) : Wq p l e R s m args below meth c D G A H0 true n0 M_X12_isLeaf x 0 0 0 [(0, (22, a0)), (1, (0, a1)), (2, (0, a2)), (3, (0, a3)), (4, (0, a4))] [] h := by
  unfold fX12_isLeaf at hr
  refine r_iload_n dX12_isLeaf_0 rfl 2 rfl (Or.inl rfl) ?_
  by_cases hs0 : a2 = 0
  · have hr := ifp hr hs0
    refine r_tableIn dX12_isLeaf_1 (by omega) (by omega) (off := 31) (by rw [hs0]; rfl) (tgt := 32) (by decide) ?_
    refine r_aload_n dX12_isLeaf_32 rfl 0 rfl (nl rfl) ?_
    refine r_iload_n dX12_isLeaf_33 rfl 1 rfl (Or.inl rfl) ?_
    obtain ⟨r34, hg34, hr⟩ := bnd hr
    refine k_V (ci := 12) (o := a0) (T := TX12) (as := [(0, a1)]) (rest := []) (X := (some (2, r34), h)) (oX12_isBare hg34) gX12_isBare rfl (by decide) rfl (wsl_71 _ (List.mem_of_getElem? (i := 23) rfl)) rfl dX12_isLeaf_34 rfl ?_
    obtain rfl := Option.some.inj hr
    exact r_ret dX12_isLeaf_37 rfl (Or.inr ⟨rfl, rfl⟩) (k0 _ hk) ⟨rfl, rfl⟩
  have hr := ifn hr hs0
  by_cases hs1 : a2 = 1
  · have hr := ifp hr hs1
    refine r_tableIn dX12_isLeaf_1 (by omega) (by omega) (off := 37) (by rw [hs1]; rfl) (tgt := 38) (by decide) ?_
    refine r_aload_n dX12_isLeaf_38 rfl 0 rfl (nl rfl) ?_
    refine r_iload_n dX12_isLeaf_39 rfl 1 rfl (Or.inl rfl) ?_
    obtain ⟨r40, hg40, hr⟩ := bnd hr
    refine k_V (ci := 12) (o := a0) (T := TX12) (as := [(0, a1)]) (rest := []) (X := (some (0, r40), h)) (oX12_referredTo hg40) gX12_referredTo rfl (by decide) rfl (wsl_56 _ (List.mem_of_getElem? (i := 22) rfl)) rfl dX12_isLeaf_40 rfl ?_
    refine r_if_le dX12_isLeaf_43 (tgt := 50) (by decide) (fun hc => ?_) (fun hc => ?_)
    · have hr := ifn hr hc
      refine r_iconst dX12_isLeaf_50 (by decide) ?_
      refine r_scast 0 (v := (0, 0)) (w := (2, 0)) rfl cz (fun _ => Or.inl rfl) (st' := [(2, 0)]) rfl ?_
      obtain rfl := Option.some.inj hr
      exact r_ret dX12_isLeaf_51 rfl (Or.inr ⟨rfl, rfl⟩) (k0 _ hk) ⟨rfl, rfl⟩
    · have hr := ifp hr hc
      refine r_iconst dX12_isLeaf_46 (by decide) ?_
      refine r_goto dX12_isLeaf_47 (tgt := 51) (by decide) ?_
      refine r_scast 0 (v := (0, 1)) (w := (2, 1)) rfl cz (fun _ => Or.inr rfl) (st' := [(2, 1)]) rfl ?_
      obtain rfl := Option.some.inj hr
      exact r_ret dX12_isLeaf_51 rfl (Or.inr ⟨rfl, rfl⟩) (k0 _ hk) ⟨rfl, rfl⟩
  have hr := ifn hr hs1
  by_cases hs2 : a2 = 2
  · have hr := ifp hr hs2
    refine r_tableIn dX12_isLeaf_1 (by omega) (by omega) (off := 51) (by rw [hs2]; rfl) (tgt := 52) (by decide) ?_
    refine r_aload_n dX12_isLeaf_52 rfl 0 rfl (nl rfl) ?_
    refine r_iload_n dX12_isLeaf_53 rfl 1 rfl (Or.inl rfl) ?_
    obtain ⟨q54, hg54, hr⟩ := bnd hr
    refine k_V (ci := 12) (o := a0) (T := TX12) (as := [(0, a1)]) (rest := []) (X := (some (2, q54.1), q54.2)) (oX12_isBroken hg54) gX12_isBroken rfl (by decide) rfl (wsl_72 _ (List.mem_of_getElem? (i := 3) rfl)) rfl dX12_isLeaf_54 rfl ?_
    obtain rfl := Option.some.inj hr
    exact r_ret dX12_isLeaf_57 rfl (Or.inr ⟨rfl, rfl⟩) (k0 _ hk) ⟨rfl, rfl⟩
  have hr := ifn hr hs2
  by_cases hs3 : a2 = 3
  · have hr := ifp hr hs3
    refine r_tableIn dX12_isLeaf_1 (by omega) (by omega) (off := 57) (by rw [hs3]; rfl) (tgt := 58) (by decide) ?_
    refine r_aload_n dX12_isLeaf_58 rfl 0 rfl (nl rfl) ?_
    refine r_get 12 6 (o := a0) (w := (50, h a0 6)) (T := TX12) (ref := "FollowingRefsModel") rfl (by decide) rfl (by decide) inlX12 (wsl_7 _ (List.mem_of_getElem? (i := 8) rfl)) rfl dX12_isLeaf_59 rfl ?_
    refine r_sipush dX12_isLeaf_62 (by decide) (by decide) ?_
    refine r_iload_n dX12_isLeaf_65 rfl 1 rfl (Or.inl rfl) ?_
    refine r_iadd dX12_isLeaf_66 ?_
    obtain ⟨v67, hg67, hr⟩ := bnd hr
    refine r_iald dX12_isLeaf_67 hg67 ?_
    refine r_iload dX12_isLeaf_68 4 rfl (Or.inl rfl) ?_
    refine r_icmp_ne dX12_isLeaf_70 (tgt := 77) (by decide) (fun hc => ?_) (fun hc => ?_)
    · have hr := ifn hr hc
      refine r_iconst dX12_isLeaf_77 (by decide) ?_
      refine r_scast 0 (v := (0, 0)) (w := (2, 0)) rfl cz (fun _ => Or.inl rfl) (st' := [(2, 0)]) rfl ?_
      obtain rfl := Option.some.inj hr
      exact r_ret dX12_isLeaf_78 rfl (Or.inr ⟨rfl, rfl⟩) (k0 _ hk) ⟨rfl, rfl⟩
    · have hr := ifp hr hc
      refine r_iconst dX12_isLeaf_73 (by decide) ?_
      refine r_goto dX12_isLeaf_74 (tgt := 78) (by decide) ?_
      refine r_scast 0 (v := (0, 1)) (w := (2, 1)) rfl cz (fun _ => Or.inr rfl) (st' := [(2, 1)]) rfl ?_
      obtain rfl := Option.some.inj hr
      exact r_ret dX12_isLeaf_78 rfl (Or.inr ⟨rfl, rfl⟩) (k0 _ hk) ⟨rfl, rfl⟩
  have hr := ifn hr hs3
  refine r_tableOut dX12_isLeaf_1 (by omega) (tgt := 79) (by decide) ?_
  refine r_iload_n dX12_isLeaf_79 rfl 2 rfl (Or.inl rfl) ?_
  refine r_iconst dX12_isLeaf_80 (by decide) ?_
  refine r_icmp_ne dX12_isLeaf_81 (tgt := 88) (by decide) (fun hc => ?_) (fun hc => ?_)
  · have hr := ifn hr hc
    refine r_iload_n dX12_isLeaf_88 rfl 2 rfl (Or.inl rfl) ?_
    refine r_bipush dX12_isLeaf_89 (by decide) (by decide) ?_
    refine r_isub dX12_isLeaf_91 ?_
    refine r_iconst dX12_isLeaf_92 (by decide) ?_
    refine r_aload_n dX12_isLeaf_93 rfl 0 rfl (nl rfl) ?_
    refine r_get 12 6 (o := a0) (w := (50, h a0 6)) (T := TX12) (ref := "FollowingRefsModel") rfl (by decide) rfl (by decide) inlX12 (wsl_7 _ (List.mem_of_getElem? (i := 8) rfl)) rfl dX12_isLeaf_94 rfl ?_
    refine r_sipush dX12_isLeaf_97 (by decide) (by decide) ?_
    refine r_iload_n dX12_isLeaf_100 rfl 1 rfl (Or.inl rfl) ?_
    refine r_iadd dX12_isLeaf_101 ?_
    obtain ⟨v102, hg102, hr⟩ := bnd hr
    refine r_iald dX12_isLeaf_102 hg102 ?_
    refine r_imul dX12_isLeaf_103 ?_
    refine r_ishr dX12_isLeaf_104 ?_
    refine r_bipush dX12_isLeaf_105 (by decide) (by decide) ?_
    refine r_iand dX12_isLeaf_107 ?_
    refine r_iconst dX12_isLeaf_108 (by decide) ?_
    refine r_isub dX12_isLeaf_109 ?_
    exact oX12_isLeaf_b110 (K := K) (fun r z => k0 r z) hr hk
  · have hr := ifp hr hc
    refine r_iconst dX12_isLeaf_84 (by decide) ?_
    refine r_goto dX12_isLeaf_85 (tgt := 110) (by decide) ?_
    exact oX12_isLeaf_b110 (K := K) (fun r z => k0 r z) hr hk
end M_X12_isLeaf
theorem oX12_isLeaf {l : Launch} {D : va_G} {G : gG} {h : hH} {a0 a1 a2 a3 a4 : Int} {r : Int × hH} (hr : fX12_isLeaf h a0 a1 a2 a3 a4 = some r) : Ctr l D G true yX12_isLeaf M_X12_isLeaf [(22, a0), (0, a1), (0, a2), (0, a3), (0, a4)] h (some (2, r.1), r.2) :=
  Ctr_of (by decide) rfl (fun z => by cases z) (nl rfl) (fun {p e R s m args below meth c A H0} => by
    exact oX12_isLeaf_b0 (K := fun z9 => z9 = r) (fun r9 z => by rw [z]) hr rfl)
/-! X12_isSaid -/
theorem dX12_isSaid_0 : decode cX12_isSaid 0 = .ok (.iconst 0, 1) := by decide +kernel
theorem dX12_isSaid_1 : decode cX12_isSaid 1 = .ok (.istore_n 2, 1) := by decide +kernel
theorem dX12_isSaid_2 : decode cX12_isSaid 2 = .ok (.iconst 0, 1) := by decide +kernel
theorem dX12_isSaid_3 : decode cX12_isSaid 3 = .ok (.istore_n 3, 1) := by decide +kernel
theorem dX12_isSaid_4 : decode cX12_isSaid 4 = .ok (.iload_n 3, 1) := by decide +kernel
theorem dX12_isSaid_5 : decode cX12_isSaid 5 = .ok (.aload_n 0, 1) := by decide +kernel
theorem dX12_isSaid_6 : decode cX12_isSaid 6 = .ok (.getfield 33, 3) := by decide +kernel
theorem dX12_isSaid_9 : decode cX12_isSaid 9 = .ok (.sipush 1239, 3) := by decide +kernel
theorem dX12_isSaid_12 : decode cX12_isSaid 12 = .ok (.iaload, 1) := by decide +kernel
theorem dX12_isSaid_13 : decode cX12_isSaid 13 = .ok (.if_icmp .ge 199, 3) := by decide +kernel
theorem dX12_isSaid_16 : decode cX12_isSaid 16 = .ok (.sipush 1240, 3) := by decide +kernel
theorem dX12_isSaid_19 : decode cX12_isSaid 19 = .ok (.iconst 3, 1) := by decide +kernel
theorem dX12_isSaid_20 : decode cX12_isSaid 20 = .ok (.iload_n 3, 1) := by decide +kernel
theorem dX12_isSaid_21 : decode cX12_isSaid 21 = .ok (.imul, 1) := by decide +kernel
theorem dX12_isSaid_22 : decode cX12_isSaid 22 = .ok (.iadd, 1) := by decide +kernel
theorem dX12_isSaid_23 : decode cX12_isSaid 23 = .ok (.istore 4, 2) := by decide +kernel
theorem dX12_isSaid_25 : decode cX12_isSaid 25 = .ok (.aload_n 0, 1) := by decide +kernel
theorem dX12_isSaid_26 : decode cX12_isSaid 26 = .ok (.getfield 33, 3) := by decide +kernel
theorem dX12_isSaid_29 : decode cX12_isSaid 29 = .ok (.iload 4, 2) := by decide +kernel
theorem dX12_isSaid_31 : decode cX12_isSaid 31 = .ok (.iaload, 1) := by decide +kernel
theorem dX12_isSaid_32 : decode cX12_isSaid 32 = .ok (.bipush 20, 2) := by decide +kernel
theorem dX12_isSaid_34 : decode cX12_isSaid 34 = .ok (.if_icmp .ne 30, 3) := by decide +kernel
theorem dX12_isSaid_37 : decode cX12_isSaid 37 = .ok (.aload_n 0, 1) := by decide +kernel
theorem dX12_isSaid_38 : decode cX12_isSaid 38 = .ok (.getfield 116, 3) := by decide +kernel
theorem dX12_isSaid_41 : decode cX12_isSaid 41 = .ok (.iload_n 2, 1) := by decide +kernel
theorem dX12_isSaid_42 : decode cX12_isSaid 42 = .ok (.iconst 1, 1) := by decide +kernel
theorem dX12_isSaid_43 : decode cX12_isSaid 43 = .ok (.isub, 1) := by decide +kernel
theorem dX12_isSaid_44 : decode cX12_isSaid 44 = .ok (.aload_n 0, 1) := by decide +kernel
theorem dX12_isSaid_45 : decode cX12_isSaid 45 = .ok (.getfield 116, 3) := by decide +kernel
theorem dX12_isSaid_48 : decode cX12_isSaid 48 = .ok (.iload_n 2, 1) := by decide +kernel
theorem dX12_isSaid_49 : decode cX12_isSaid 49 = .ok (.iconst 1, 1) := by decide +kernel
theorem dX12_isSaid_50 : decode cX12_isSaid 50 = .ok (.isub, 1) := by decide +kernel
theorem dX12_isSaid_51 : decode cX12_isSaid 51 = .ok (.baload, 1) := by decide +kernel
theorem dX12_isSaid_52 : decode cX12_isSaid 52 = .ok (.ifCond .ne 7, 3) := by decide +kernel
theorem dX12_isSaid_55 : decode cX12_isSaid 55 = .ok (.iconst 1, 1) := by decide +kernel
theorem dX12_isSaid_56 : decode cX12_isSaid 56 = .ok (.goto 4, 3) := by decide +kernel
theorem dX12_isSaid_59 : decode cX12_isSaid 59 = .ok (.iconst 0, 1) := by decide +kernel
theorem dX12_isSaid_60 : decode cX12_isSaid 60 = .ok (.bastore, 1) := by decide +kernel
theorem dX12_isSaid_61 : decode cX12_isSaid 61 = .ok (.goto 145, 3) := by decide +kernel
theorem dX12_isSaid_64 : decode cX12_isSaid 64 = .ok (.aload_n 0, 1) := by decide +kernel
theorem dX12_isSaid_65 : decode cX12_isSaid 65 = .ok (.getfield 33, 3) := by decide +kernel
theorem dX12_isSaid_68 : decode cX12_isSaid 68 = .ok (.iload 4, 2) := by decide +kernel
theorem dX12_isSaid_70 : decode cX12_isSaid 70 = .ok (.iaload, 1) := by decide +kernel
theorem dX12_isSaid_71 : decode cX12_isSaid 71 = .ok (.bipush 21, 2) := by decide +kernel
theorem dX12_isSaid_73 : decode cX12_isSaid 73 = .ok (.if_icmp .eq 15, 3) := by decide +kernel
theorem dX12_isSaid_76 : decode cX12_isSaid 76 = .ok (.aload_n 0, 1) := by decide +kernel
theorem dX12_isSaid_77 : decode cX12_isSaid 77 = .ok (.getfield 33, 3) := by decide +kernel
theorem dX12_isSaid_80 : decode cX12_isSaid 80 = .ok (.iload 4, 2) := by decide +kernel
theorem dX12_isSaid_82 : decode cX12_isSaid 82 = .ok (.iaload, 1) := by decide +kernel
theorem dX12_isSaid_83 : decode cX12_isSaid 83 = .ok (.bipush 22, 2) := by decide +kernel
theorem dX12_isSaid_85 : decode cX12_isSaid 85 = .ok (.if_icmp .ne 82, 3) := by decide +kernel
theorem dX12_isSaid_88 : decode cX12_isSaid 88 = .ok (.iinc 2 (-1), 3) := by decide +kernel
theorem dX12_isSaid_91 : decode cX12_isSaid 91 = .ok (.aload_n 0, 1) := by decide +kernel
theorem dX12_isSaid_92 : decode cX12_isSaid 92 = .ok (.getfield 116, 3) := by decide +kernel
theorem dX12_isSaid_95 : decode cX12_isSaid 95 = .ok (.iload_n 2, 1) := by decide +kernel
theorem dX12_isSaid_96 : decode cX12_isSaid 96 = .ok (.iconst 1, 1) := by decide +kernel
theorem dX12_isSaid_97 : decode cX12_isSaid 97 = .ok (.isub, 1) := by decide +kernel
theorem dX12_isSaid_98 : decode cX12_isSaid 98 = .ok (.aload_n 0, 1) := by decide +kernel
theorem dX12_isSaid_99 : decode cX12_isSaid 99 = .ok (.getfield 33, 3) := by decide +kernel
theorem dX12_isSaid_102 : decode cX12_isSaid 102 = .ok (.iload 4, 2) := by decide +kernel
theorem dX12_isSaid_104 : decode cX12_isSaid 104 = .ok (.iaload, 1) := by decide +kernel
theorem dX12_isSaid_105 : decode cX12_isSaid 105 = .ok (.bipush 21, 2) := by decide +kernel
theorem dX12_isSaid_107 : decode cX12_isSaid 107 = .ok (.if_icmp .ne 31, 3) := by decide +kernel
theorem dX12_isSaid_110 : decode cX12_isSaid 110 = .ok (.aload_n 0, 1) := by decide +kernel
theorem dX12_isSaid_111 : decode cX12_isSaid 111 = .ok (.getfield 116, 3) := by decide +kernel
theorem dX12_isSaid_114 : decode cX12_isSaid 114 = .ok (.iload_n 2, 1) := by decide +kernel
theorem dX12_isSaid_115 : decode cX12_isSaid 115 = .ok (.iconst 1, 1) := by decide +kernel
theorem dX12_isSaid_116 : decode cX12_isSaid 116 = .ok (.isub, 1) := by decide +kernel
theorem dX12_isSaid_117 : decode cX12_isSaid 117 = .ok (.baload, 1) := by decide +kernel
theorem dX12_isSaid_118 : decode cX12_isSaid 118 = .ok (.ifCond .eq 16, 3) := by decide +kernel
theorem dX12_isSaid_121 : decode cX12_isSaid 121 = .ok (.aload_n 0, 1) := by decide +kernel
theorem dX12_isSaid_122 : decode cX12_isSaid 122 = .ok (.getfield 116, 3) := by decide +kernel
theorem dX12_isSaid_125 : decode cX12_isSaid 125 = .ok (.iload_n 2, 1) := by decide +kernel
theorem dX12_isSaid_126 : decode cX12_isSaid 126 = .ok (.baload, 1) := by decide +kernel
theorem dX12_isSaid_127 : decode cX12_isSaid 127 = .ok (.ifCond .eq 7, 3) := by decide +kernel
theorem dX12_isSaid_130 : decode cX12_isSaid 130 = .ok (.iconst 1, 1) := by decide +kernel
theorem dX12_isSaid_131 : decode cX12_isSaid 131 = .ok (.goto 32, 3) := by decide +kernel
theorem dX12_isSaid_134 : decode cX12_isSaid 134 = .ok (.iconst 0, 1) := by decide +kernel
theorem dX12_isSaid_135 : decode cX12_isSaid 135 = .ok (.goto 28, 3) := by decide +kernel
theorem dX12_isSaid_138 : decode cX12_isSaid 138 = .ok (.aload_n 0, 1) := by decide +kernel
theorem dX12_isSaid_139 : decode cX12_isSaid 139 = .ok (.getfield 116, 3) := by decide +kernel
theorem dX12_isSaid_142 : decode cX12_isSaid 142 = .ok (.iload_n 2, 1) := by decide +kernel
theorem dX12_isSaid_143 : decode cX12_isSaid 143 = .ok (.iconst 1, 1) := by decide +kernel
theorem dX12_isSaid_144 : decode cX12_isSaid 144 = .ok (.isub, 1) := by decide +kernel
theorem dX12_isSaid_145 : decode cX12_isSaid 145 = .ok (.baload, 1) := by decide +kernel
theorem dX12_isSaid_146 : decode cX12_isSaid 146 = .ok (.ifCond .ne 12, 3) := by decide +kernel
theorem dX12_isSaid_149 : decode cX12_isSaid 149 = .ok (.aload_n 0, 1) := by decide +kernel
theorem dX12_isSaid_150 : decode cX12_isSaid 150 = .ok (.getfield 116, 3) := by decide +kernel
theorem dX12_isSaid_153 : decode cX12_isSaid 153 = .ok (.iload_n 2, 1) := by decide +kernel
theorem dX12_isSaid_154 : decode cX12_isSaid 154 = .ok (.baload, 1) := by decide +kernel
theorem dX12_isSaid_155 : decode cX12_isSaid 155 = .ok (.ifCond .eq 7, 3) := by decide +kernel
theorem dX12_isSaid_158 : decode cX12_isSaid 158 = .ok (.iconst 1, 1) := by decide +kernel
theorem dX12_isSaid_159 : decode cX12_isSaid 159 = .ok (.goto 4, 3) := by decide +kernel
theorem dX12_isSaid_162 : decode cX12_isSaid 162 = .ok (.iconst 0, 1) := by decide +kernel
theorem dX12_isSaid_163 : decode cX12_isSaid 163 = .ok (.bastore, 1) := by decide +kernel
theorem dX12_isSaid_164 : decode cX12_isSaid 164 = .ok (.goto 42, 3) := by decide +kernel
theorem dX12_isSaid_167 : decode cX12_isSaid 167 = .ok (.aload_n 0, 1) := by decide +kernel
theorem dX12_isSaid_168 : decode cX12_isSaid 168 = .ok (.getfield 116, 3) := by decide +kernel
theorem dX12_isSaid_171 : decode cX12_isSaid 171 = .ok (.iload_n 2, 1) := by decide +kernel
theorem dX12_isSaid_172 : decode cX12_isSaid 172 = .ok (.aload_n 0, 1) := by decide +kernel
theorem dX12_isSaid_173 : decode cX12_isSaid 173 = .ok (.iload_n 1, 1) := by decide +kernel
theorem dX12_isSaid_174 : decode cX12_isSaid 174 = .ok (.aload_n 0, 1) := by decide +kernel
theorem dX12_isSaid_175 : decode cX12_isSaid 175 = .ok (.getfield 33, 3) := by decide +kernel
theorem dX12_isSaid_178 : decode cX12_isSaid 178 = .ok (.iload 4, 2) := by decide +kernel
theorem dX12_isSaid_180 : decode cX12_isSaid 180 = .ok (.iaload, 1) := by decide +kernel
theorem dX12_isSaid_181 : decode cX12_isSaid 181 = .ok (.aload_n 0, 1) := by decide +kernel
theorem dX12_isSaid_182 : decode cX12_isSaid 182 = .ok (.getfield 33, 3) := by decide +kernel
theorem dX12_isSaid_185 : decode cX12_isSaid 185 = .ok (.iload 4, 2) := by decide +kernel
theorem dX12_isSaid_187 : decode cX12_isSaid 187 = .ok (.iconst 1, 1) := by decide +kernel
theorem dX12_isSaid_188 : decode cX12_isSaid 188 = .ok (.iadd, 1) := by decide +kernel
theorem dX12_isSaid_189 : decode cX12_isSaid 189 = .ok (.iaload, 1) := by decide +kernel
theorem dX12_isSaid_190 : decode cX12_isSaid 190 = .ok (.aload_n 0, 1) := by decide +kernel
theorem dX12_isSaid_191 : decode cX12_isSaid 191 = .ok (.getfield 33, 3) := by decide +kernel
theorem dX12_isSaid_194 : decode cX12_isSaid 194 = .ok (.iload 4, 2) := by decide +kernel
theorem dX12_isSaid_196 : decode cX12_isSaid 196 = .ok (.iconst 2, 1) := by decide +kernel
theorem dX12_isSaid_197 : decode cX12_isSaid 197 = .ok (.iadd, 1) := by decide +kernel
theorem dX12_isSaid_198 : decode cX12_isSaid 198 = .ok (.iaload, 1) := by decide +kernel
theorem dX12_isSaid_199 : decode cX12_isSaid 199 = .ok (.invokevirtual 594, 3) := by decide +kernel
theorem dX12_isSaid_202 : decode cX12_isSaid 202 = .ok (.bastore, 1) := by decide +kernel
theorem dX12_isSaid_203 : decode cX12_isSaid 203 = .ok (.iinc 2 1, 3) := by decide +kernel
theorem dX12_isSaid_206 : decode cX12_isSaid 206 = .ok (.iinc 3 1, 3) := by decide +kernel
theorem dX12_isSaid_209 : decode cX12_isSaid 209 = .ok (.goto (-205), 3) := by decide +kernel
theorem dX12_isSaid_212 : decode cX12_isSaid 212 = .ok (.aload_n 0, 1) := by decide +kernel
theorem dX12_isSaid_213 : decode cX12_isSaid 213 = .ok (.getfield 116, 3) := by decide +kernel
theorem dX12_isSaid_216 : decode cX12_isSaid 216 = .ok (.iconst 0, 1) := by decide +kernel
theorem dX12_isSaid_217 : decode cX12_isSaid 217 = .ok (.baload, 1) := by decide +kernel
theorem dX12_isSaid_218 : decode cX12_isSaid 218 = .ok (.ireturn, 1) := by decide +kernel
abbrev M_X12_isSaid : mM := (cX12_isSaid, 5, RX12, some .boolean, false, 7, 168, 0, 0)
theorem gX12_isSaid : cI yX12_isSaid M_X12_isSaid 1 := ⟨(wsl_71 _ (List.mem_of_getElem? (i := 16) rfl)), (wsl_71 _ (List.mem_of_getElem? (i := 17) rfl)), (wsl_1 _ (List.mem_of_getElem? (i := 5) rfl)), (wsl_71 _ (List.mem_of_getElem? (i := 18) rfl)), by decide +kernel⟩
noncomputable def fX12_isSaid_b60 (h : hH) (a0 a1 l2 l3 s0 s1 s2 : Int) : Option ((hH × Int × Int) ⊕ (Int × hH)) :=
  (aput h s2 s1 s0).bind fun h60 =>
  some (.inl (h60, l2, w32 (l3 + 1)))
noncomputable def fX12_isSaid_b163 (h : hH) (a0 a1 l2 l3 s0 s1 s2 : Int) : Option ((hH × Int × Int) ⊕ (Int × hH)) :=
  (aput h s2 s1 s0).bind fun h163 =>
  some (.inl (h163, l2, w32 (l3 + 1)))
noncomputable def fX12_isSaid_b134 (h : hH) (a0 a1 l2 l3 s0 s1 : Int) : Option ((hH × Int × Int) ⊕ (Int × hH)) :=
  fX12_isSaid_b163 h a0 a1 l2 l3 0 s0 s1
noncomputable def fX12_isSaid_b158 (h : hH) (a0 a1 l2 l3 s0 s1 : Int) : Option ((hH × Int × Int) ⊕ (Int × hH)) :=
  fX12_isSaid_b163 h a0 a1 l2 l3 1 s0 s1
noncomputable def fX12_isSaid_b88 (h : hH) (a0 a1 l2 l3 l4 : Int) : Option ((hH × Int × Int) ⊕ (Int × hH)) :=
  (aget h (h a0 6) l4).bind fun v104 =>
  if v104 = 21 then
    (aget h (h a0 62) (w32 ((w32 (l2 + (-1))) - 1))).bind fun v117 =>
    if v117 = 0 then
      fX12_isSaid_b134 h a0 a1 (w32 (l2 + (-1))) l3 (w32 ((w32 (l2 + (-1))) - 1)) (h a0 62)
    else
      (aget h (h a0 62) (w32 (l2 + (-1)))).bind fun v126 =>
      if v126 = 0 then
        fX12_isSaid_b134 h a0 a1 (w32 (l2 + (-1))) l3 (w32 ((w32 (l2 + (-1))) - 1)) (h a0 62)
      else
        fX12_isSaid_b163 h a0 a1 (w32 (l2 + (-1))) l3 1 (w32 ((w32 (l2 + (-1))) - 1)) (h a0 62)
  else
    (aget h (h a0 62) (w32 ((w32 (l2 + (-1))) - 1))).bind fun v145 =>
    if v145 = 0 then
      (aget h (h a0 62) (w32 (l2 + (-1)))).bind fun v154 =>
      if v154 = 0 then
        fX12_isSaid_b163 h a0 a1 (w32 (l2 + (-1))) l3 0 (w32 ((w32 (l2 + (-1))) - 1)) (h a0 62)
      else
        fX12_isSaid_b158 h a0 a1 (w32 (l2 + (-1))) l3 (w32 ((w32 (l2 + (-1))) - 1)) (h a0 62)
    else
      fX12_isSaid_b158 h a0 a1 (w32 (l2 + (-1))) l3 (w32 ((w32 (l2 + (-1))) - 1)) (h a0 62)
noncomputable def fX12_isSaid_s4 (h0 : hH) (a0 a1 : Int) : hH × Int × Int → Option ((hH × Int × Int) ⊕ (Int × hH)) := fun (h, l2, l3) =>
  (aget h (h a0 6) 1239).bind fun v12 =>
  if l3 < v12 then
    (aget h (h a0 6) (w32 (1240 + (w32 (3 * l3))))).bind fun v31 =>
    if v31 = 20 then
      (aget h (h a0 62) (w32 (l2 - 1))).bind fun v51 =>
      if v51 = 0 then
        fX12_isSaid_b60 h a0 a1 l2 l3 1 (w32 (l2 - 1)) (h a0 62)
      else
        fX12_isSaid_b60 h a0 a1 l2 l3 0 (w32 (l2 - 1)) (h a0 62)
    else
      (aget h (h a0 6) (w32 (1240 + (w32 (3 * l3))))).bind fun v70 =>
      if v70 = 21 then
        fX12_isSaid_b88 h a0 a1 l2 l3 (w32 (1240 + (w32 (3 * l3))))
      else
        (aget h (h a0 6) (w32 (1240 + (w32 (3 * l3))))).bind fun v82 =>
        if v82 = 22 then
          fX12_isSaid_b88 h a0 a1 l2 l3 (w32 (1240 + (w32 (3 * l3))))
        else
          (aget h (h a0 6) (w32 (1240 + (w32 (3 * l3))))).bind fun v180 =>
          (aget h (h a0 6) (w32 ((w32 (1240 + (w32 (3 * l3)))) + 1))).bind fun v189 =>
          (aget h (h a0 6) (w32 ((w32 (1240 + (w32 (3 * l3)))) + 2))).bind fun v198 =>
          (fX12_isLeaf h a0 a1 v180 v189 v198).bind fun q199 =>
          (aput q199.2 (h a0 62) l2 q199.1).bind fun h202 =>
          some (.inl (h202, w32 (l2 + 1), w32 (l3 + 1)))
  else
    (aget h (h a0 62) 0).bind fun v217 =>
    some (.inr ((v217, h)))
noncomputable def fX12_isSaid (h : hH) (a0 a1 : Int) : Option (Int × hH) :=
  lpO (fX12_isSaid_s4 h a0 a1) (h, 0, 0)
section M_X12_isSaid
variable {p : Program} {l : Launch} {e : Env} {R : Room} {s : State} {m : MethodId} {args : Array Value} {below : List Frame} {meth : Method} {c : Code} {D : va_G} {G : gG} {A : Nat → Prop} {H0 : Heap} {n0 : Int} {x : Option vV × hH} {h : hH}
set_option maxRecDepth 100000 in
set_option maxHeartbeats 4000000 in
theorem oX12_isSaid_b60 {a0 a1 l2 l3 s0 s1 s2 : Int} {K : (hH × Int × Int) ⊕ (Int × hH) → Prop} (k0 : ∀ r, K (.inr (r)) → x = (some (2, r.1), r.2)) (k1 : ∀ (h : hH) (l2 : Int) (l3 : Int), K (.inl (h, l2, l3)) → Wq p l e R s m args below meth c D G A H0 true n0 M_X12_isSaid x 0 0 4 [(0, (22, a0)), (1, (0, a1)), (2, (0, l2)), (3, (0, l3))] [] h) {r : (hH × Int × Int) ⊕ (Int × hH)} (hr : fX12_isSaid_b60 h a0 a1 l2 l3 s0 s1 s2 = some r) (hk : K r) : Wq p l e R s m args below meth c D G A H0 true n0 M_X12_isSaid x 0 0 60 [(0, (22, a0)), (1, (0, a1)), (2, (0, l2)), (3, (0, l3))] [(2, s0), (0, s1), (53, s2)] h := by
  unfold fX12_isSaid_b60 at hr
  obtain ⟨h60, hg60, hr⟩ := bnd hr
  refine r_zast dX12_isSaid_60 hg60 ?_
  refine r_goto dX12_isSaid_61 (tgt := 206) (by decide) ?_
  refine r_iinc (k := 3) (v := l3) dX12_isSaid_206 rfl (by decide) (lv' := [(3, (0, w32 (l3 + 1))), (0, (22, a0)), (1, (0, a1)), (2, (0, l2))]) rfl ?_
  refine r_goto dX12_isSaid_209 (tgt := 4) (by decide) ?_
  refine r_sub [1, 2, 3, 0] (lv' := [(0, (22, a0)), (1, (0, a1)), (2, (0, l2)), (3, (0, w32 (l3 + 1)))]) rfl ?_
  obtain rfl := Option.some.inj hr
  exact k1 _ _ _ hk
set_option maxRecDepth 100000 in
set_option maxHeartbeats 4000000 in
theorem oX12_isSaid_b163 {a0 a1 l2 l3 s0 s1 s2 : Int} {K : (hH × Int × Int) ⊕ (Int × hH) → Prop} (k0 : ∀ r, K (.inr (r)) → x = (some (2, r.1), r.2)) (k1 : ∀ (h : hH) (l2 : Int) (l3 : Int), K (.inl (h, l2, l3)) → Wq p l e R s m args below meth c D G A H0 true n0 M_X12_isSaid x 0 0 4 [(0, (22, a0)), (1, (0, a1)), (2, (0, l2)), (3, (0, l3))] [] h) {r : (hH × Int × Int) ⊕ (Int × hH)} (hr : fX12_isSaid_b163 h a0 a1 l2 l3 s0 s1 s2 = some r) (hk : K r) : Wq p l e R s m args below meth c D G A H0 true n0 M_X12_isSaid x 0 0 163 [(0, (22, a0)), (1, (0, a1)), (2, (0, l2)), (3, (0, l3))] [(2, s0), (0, s1), (53, s2)] h := by
  unfold fX12_isSaid_b163 at hr
  obtain ⟨h163, hg163, hr⟩ := bnd hr
  refine r_zast dX12_isSaid_163 hg163 ?_
  refine r_goto dX12_isSaid_164 (tgt := 206) (by decide) ?_
  refine r_iinc (k := 3) (v := l3) dX12_isSaid_206 rfl (by decide) (lv' := [(3, (0, w32 (l3 + 1))), (0, (22, a0)), (1, (0, a1)), (2, (0, l2))]) rfl ?_
  refine r_goto dX12_isSaid_209 (tgt := 4) (by decide) ?_
  refine r_sub [1, 2, 3, 0] (lv' := [(0, (22, a0)), (1, (0, a1)), (2, (0, l2)), (3, (0, w32 (l3 + 1)))]) rfl ?_
  obtain rfl := Option.some.inj hr
  exact k1 _ _ _ hk
set_option maxRecDepth 100000 in
set_option maxHeartbeats 4000000 in
theorem oX12_isSaid_b134 {a0 a1 l2 l3 s0 s1 : Int} {K : (hH × Int × Int) ⊕ (Int × hH) → Prop} (k0 : ∀ r, K (.inr (r)) → x = (some (2, r.1), r.2)) (k1 : ∀ (h : hH) (l2 : Int) (l3 : Int), K (.inl (h, l2, l3)) → Wq p l e R s m args below meth c D G A H0 true n0 M_X12_isSaid x 0 0 4 [(0, (22, a0)), (1, (0, a1)), (2, (0, l2)), (3, (0, l3))] [] h) {r : (hH × Int × Int) ⊕ (Int × hH)} (hr : fX12_isSaid_b134 h a0 a1 l2 l3 s0 s1 = some r) (hk : K r) : Wq p l e R s m args below meth c D G A H0 true n0 M_X12_isSaid x 0 0 134 [(0, (22, a0)), (1, (0, a1)), (2, (0, l2)), (3, (0, l3))] [(0, s0), (53, s1)] h := by
  unfold fX12_isSaid_b134 at hr
  refine r_iconst dX12_isSaid_134 (by decide) ?_
  refine r_goto dX12_isSaid_135 (tgt := 163) (by decide) ?_
  refine r_scast 0 (v := (0, 0)) (w := (2, 0)) rfl cz (fun _ => Or.inl rfl) (st' := [(2, 0), (0, s0), (53, s1)]) rfl ?_
  exact oX12_isSaid_b163 (K := K) (fun r z => k0 r z) (fun _ _ _ z => k1 _ _ _ z) hr hk
set_option maxRecDepth 100000 in
set_option maxHeartbeats 4000000 in
theorem oX12_isSaid_b158 {a0 a1 l2 l3 s0 s1 : Int} {K : (hH × Int × Int) ⊕ (Int × hH) → Prop} (k0 : ∀ r, K (.inr (r)) → x = (some (2, r.1), r.2)) (k1 : ∀ (h : hH) (l2 : Int) (l3 : Int), K (.inl (h, l2, l3)) → Wq p l e R s m args below meth c D G A H0 true n0 M_X12_isSaid x 0 0 4 [(0, (22, a0)), (1, (0, a1)), (2, (0, l2)), (3, (0, l3))] [] h) {r : (hH × Int × Int) ⊕ (Int × hH)} (hr : fX12_isSaid_b158 h a0 a1 l2 l3 s0 s1 = some r) (hk : K r) : Wq p l e R s m args below meth c D G A H0 true n0 M_X12_isSaid x 0 0 158 [(0, (22, a0)), (1, (0, a1)), (2, (0, l2)), (3, (0, l3))] [(0, s0), (53, s1)] h := by
  unfold fX12_isSaid_b158 at hr
  refine r_iconst dX12_isSaid_158 (by decide) ?_
  refine r_goto dX12_isSaid_159 (tgt := 163) (by decide) ?_
  refine r_scast 0 (v := (0, 1)) (w := (2, 1)) rfl cz (fun _ => Or.inr rfl) (st' := [(2, 1), (0, s0), (53, s1)]) rfl ?_
  exact oX12_isSaid_b163 (K := K) (fun r z => k0 r z) (fun _ _ _ z => k1 _ _ _ z) hr hk
set_option maxRecDepth 100000 in
set_option maxHeartbeats 4000000 in
theorem oX12_isSaid_b88 {a0 a1 l2 l3 l4 : Int} {K : (hH × Int × Int) ⊕ (Int × hH) → Prop} (k0 : ∀ r, K (.inr (r)) → x = (some (2, r.1), r.2)) (k1 : ∀ (h : hH) (l2 : Int) (l3 : Int), K (.inl (h, l2, l3)) → Wq p l e R s m args below meth c D G A H0 true n0 M_X12_isSaid x 0 0 4 [(0, (22, a0)), (1, (0, a1)), (2, (0, l2)), (3, (0, l3))] [] h) {r : (hH × Int × Int) ⊕ (Int × hH)} (hr : fX12_isSaid_b88 h a0 a1 l2 l3 l4 = some r) (hk : K r) : Wq p l e R s m args below meth c D G A H0 true n0 M_X12_isSaid x 0 0 88 [(0, (22, a0)), (1, (0, a1)), (2, (0, l2)), (3, (0, l3)), (4, (0, l4))] [] h := by
  unfold fX12_isSaid_b88 at hr
  refine r_iinc (k := 2) (v := l2) dX12_isSaid_88 rfl (by decide) (lv' := [(2, (0, w32 (l2 + (-1)))), (0, (22, a0)), (1, (0, a1)), (3, (0, l3)), (4, (0, l4))]) rfl ?_
  refine r_aload_n dX12_isSaid_91 rfl 1 rfl (nl rfl) ?_
  refine r_get 12 62 (o := a0) (w := (53, h a0 62)) (T := TX12) (ref := "FollowingRefsModel") rfl (by decide) rfl (by decide) inlX12 (wsl_8 _ (List.mem_of_getElem? (i := 12) rfl)) rfl dX12_isSaid_92 rfl ?_
  refine r_iload_n dX12_isSaid_95 rfl 0 rfl (Or.inl rfl) ?_
  refine r_iconst dX12_isSaid_96 (by decide) ?_
  refine r_isub dX12_isSaid_97 ?_
  refine r_aload_n dX12_isSaid_98 rfl 1 rfl (nl rfl) ?_
  refine r_get 12 6 (o := a0) (w := (50, h a0 6)) (T := TX12) (ref := "FollowingRefsModel") rfl (by decide) rfl (by decide) inlX12 (wsl_7 _ (List.mem_of_getElem? (i := 8) rfl)) rfl dX12_isSaid_99 rfl ?_
  refine r_iload dX12_isSaid_102 4 rfl (Or.inl rfl) ?_
  obtain ⟨v104, hg104, hr⟩ := bnd hr
  refine r_iald dX12_isSaid_104 hg104 ?_
  refine r_bipush dX12_isSaid_105 (by decide) (by decide) ?_
  refine r_icmp_ne dX12_isSaid_107 (tgt := 138) (by decide) (fun hc => ?_) (fun hc => ?_)
  · have hr := ifn hr hc
    refine r_aload_n dX12_isSaid_138 rfl 1 rfl (nl rfl) ?_
    refine r_get 12 62 (o := a0) (w := (53, h a0 62)) (T := TX12) (ref := "FollowingRefsModel") rfl (by decide) rfl (by decide) inlX12 (wsl_8 _ (List.mem_of_getElem? (i := 12) rfl)) rfl dX12_isSaid_139 rfl ?_
    refine r_iload_n dX12_isSaid_142 rfl 0 rfl (Or.inl rfl) ?_
    refine r_iconst dX12_isSaid_143 (by decide) ?_
    refine r_isub dX12_isSaid_144 ?_
    obtain ⟨v145, hg145, hr⟩ := bnd hr
    refine r_zald dX12_isSaid_145 hg145 ?_
    refine r_scast 0 (v := (2, v145)) (w := (0, v145)) rfl zc hTz (st' := [(0, v145), (0, w32 ((w32 (l2 + (-1))) - 1)), (53, h a0 62)]) rfl ?_
    refine r_if_ne dX12_isSaid_146 (tgt := 158) (by decide) (fun hc => ?_) (fun hc => ?_)
    · have hr := ifn hr hc
      refine r_sub [1, 2, 0, 3] (lv' := [(0, (22, a0)), (1, (0, a1)), (2, (0, w32 (l2 + (-1)))), (3, (0, l3))]) rfl ?_
      exact oX12_isSaid_b158 (K := K) (fun r z => k0 r z) (fun _ _ _ z => k1 _ _ _ z) hr hk
    · have hr := ifp hr hc
      refine r_aload_n dX12_isSaid_149 rfl 1 rfl (nl rfl) ?_
      refine r_get 12 62 (o := a0) (w := (53, h a0 62)) (T := TX12) (ref := "FollowingRefsModel") rfl (by decide) rfl (by decide) inlX12 (wsl_8 _ (List.mem_of_getElem? (i := 12) rfl)) rfl dX12_isSaid_150 rfl ?_
      refine r_iload_n dX12_isSaid_153 rfl 0 rfl (Or.inl rfl) ?_
      obtain ⟨v154, hg154, hr⟩ := bnd hr
      refine r_zald dX12_isSaid_154 hg154 ?_
      refine r_scast 0 (v := (2, v154)) (w := (0, v154)) rfl zc hTz (st' := [(0, v154), (0, w32 ((w32 (l2 + (-1))) - 1)), (53, h a0 62)]) rfl ?_
      refine r_if_eq dX12_isSaid_155 (tgt := 162) (by decide) (fun hc => ?_) (fun hc => ?_)
      · have hr := ifp hr hc
        refine r_iconst dX12_isSaid_162 (by decide) ?_
        refine r_sub [1, 2, 0, 3] (lv' := [(0, (22, a0)), (1, (0, a1)), (2, (0, w32 (l2 + (-1)))), (3, (0, l3))]) rfl ?_
        refine r_scast 0 (v := (0, 0)) (w := (2, 0)) rfl cz (fun _ => Or.inl rfl) (st' := [(2, 0), (0, w32 ((w32 (l2 + (-1))) - 1)), (53, h a0 62)]) rfl ?_
        exact oX12_isSaid_b163 (K := K) (fun r z => k0 r z) (fun _ _ _ z => k1 _ _ _ z) hr hk
      · have hr := ifn hr hc
        refine r_sub [1, 2, 0, 3] (lv' := [(0, (22, a0)), (1, (0, a1)), (2, (0, w32 (l2 + (-1)))), (3, (0, l3))]) rfl ?_
        exact oX12_isSaid_b158 (K := K) (fun r z => k0 r z) (fun _ _ _ z => k1 _ _ _ z) hr hk
  · have hr := ifp hr hc
    refine r_aload_n dX12_isSaid_110 rfl 1 rfl (nl rfl) ?_
    refine r_get 12 62 (o := a0) (w := (53, h a0 62)) (T := TX12) (ref := "FollowingRefsModel") rfl (by decide) rfl (by decide) inlX12 (wsl_8 _ (List.mem_of_getElem? (i := 12) rfl)) rfl dX12_isSaid_111 rfl ?_
    refine r_iload_n dX12_isSaid_114 rfl 0 rfl (Or.inl rfl) ?_
    refine r_iconst dX12_isSaid_115 (by decide) ?_
    refine r_isub dX12_isSaid_116 ?_
    obtain ⟨v117, hg117, hr⟩ := bnd hr
    refine r_zald dX12_isSaid_117 hg117 ?_
    refine r_scast 0 (v := (2, v117)) (w := (0, v117)) rfl zc hTz (st' := [(0, v117), (0, w32 ((w32 (l2 + (-1))) - 1)), (53, h a0 62)]) rfl ?_
    refine r_if_eq dX12_isSaid_118 (tgt := 134) (by decide) (fun hc => ?_) (fun hc => ?_)
    · have hr := ifp hr hc
      refine r_sub [1, 2, 0, 3] (lv' := [(0, (22, a0)), (1, (0, a1)), (2, (0, w32 (l2 + (-1)))), (3, (0, l3))]) rfl ?_
      exact oX12_isSaid_b134 (K := K) (fun r z => k0 r z) (fun _ _ _ z => k1 _ _ _ z) hr hk
    · have hr := ifn hr hc
      refine r_aload_n dX12_isSaid_121 rfl 1 rfl (nl rfl) ?_
      refine r_get 12 62 (o := a0) (w := (53, h a0 62)) (T := TX12) (ref := "FollowingRefsModel") rfl (by decide) rfl (by decide) inlX12 (wsl_8 _ (List.mem_of_getElem? (i := 12) rfl)) rfl dX12_isSaid_122 rfl ?_
      refine r_iload_n dX12_isSaid_125 rfl 0 rfl (Or.inl rfl) ?_
      obtain ⟨v126, hg126, hr⟩ := bnd hr
      refine r_zald dX12_isSaid_126 hg126 ?_
      refine r_scast 0 (v := (2, v126)) (w := (0, v126)) rfl zc hTz (st' := [(0, v126), (0, w32 ((w32 (l2 + (-1))) - 1)), (53, h a0 62)]) rfl ?_
      refine r_if_eq dX12_isSaid_127 (tgt := 134) (by decide) (fun hc => ?_) (fun hc => ?_)
      · have hr := ifp hr hc
        refine r_sub [1, 2, 0, 3] (lv' := [(0, (22, a0)), (1, (0, a1)), (2, (0, w32 (l2 + (-1)))), (3, (0, l3))]) rfl ?_
        exact oX12_isSaid_b134 (K := K) (fun r z => k0 r z) (fun _ _ _ z => k1 _ _ _ z) hr hk
      · have hr := ifn hr hc
        refine r_iconst dX12_isSaid_130 (by decide) ?_
        refine r_goto dX12_isSaid_131 (tgt := 163) (by decide) ?_
        refine r_sub [1, 2, 0, 3] (lv' := [(0, (22, a0)), (1, (0, a1)), (2, (0, w32 (l2 + (-1)))), (3, (0, l3))]) rfl ?_
        refine r_scast 0 (v := (0, 1)) (w := (2, 1)) rfl cz (fun _ => Or.inr rfl) (st' := [(2, 1), (0, w32 ((w32 (l2 + (-1))) - 1)), (53, h a0 62)]) rfl ?_
        exact oX12_isSaid_b163 (K := K) (fun r z => k0 r z) (fun _ _ _ z => k1 _ _ _ z) hr hk
set_option maxRecDepth 100000 in
set_option maxHeartbeats 4000000 in
theorem oX12_isSaid_s4 {h0 : hH} {a0 a1 l2 l3 : Int} {K : (hH × Int × Int) ⊕ (Int × hH) → Prop} (k0 : ∀ r, K (.inr (r)) → x = (some (2, r.1), r.2)) (k1 : ∀ (h : hH) (l2 : Int) (l3 : Int), K (.inl (h, l2, l3)) → Wq p l e R s m args below meth c D G A H0 true n0 M_X12_isSaid x 0 0 4 [(0, (22, a0)), (1, (0, a1)), (2, (0, l2)), (3, (0, l3))] [] h) {r : (hH × Int × Int) ⊕ (Int × hH)} (hr : fX12_isSaid_s4 h0 a0 a1 (h, l2, l3) = some r) (hk : K r) : Wq p l e R s m args below meth c D G A H0 true n0 M_X12_isSaid x 0 0 4 [(0, (22, a0)), (1, (0, a1)), (2, (0, l2)), (3, (0, l3))] [] h := by
  unfold fX12_isSaid_s4 at hr
  refine r_iload_n dX12_isSaid_4 rfl 3 rfl (Or.inl rfl) ?_
  refine r_aload_n dX12_isSaid_5 rfl 0 rfl (nl rfl) ?_
  refine r_get 12 6 (o := a0) (w := (50, h a0 6)) (T := TX12) (ref := "FollowingRefsModel") rfl (by decide) rfl (by decide) inlX12 (wsl_7 _ (List.mem_of_getElem? (i := 8) rfl)) rfl dX12_isSaid_6 rfl ?_
  refine r_sipush dX12_isSaid_9 (by decide) (by decide) ?_
  obtain ⟨v12, hg12, hr⟩ := bnd hr
  refine r_iald dX12_isSaid_12 hg12 ?_
  refine r_icmp_ge dX12_isSaid_13 (tgt := 212) (by decide) (fun hc => ?_) (fun hc => ?_)
  · have hr := ifn hr hc
    refine r_aload_n dX12_isSaid_212 rfl 0 rfl (nl rfl) ?_
    refine r_get 12 62 (o := a0) (w := (53, h a0 62)) (T := TX12) (ref := "FollowingRefsModel") rfl (by decide) rfl (by decide) inlX12 (wsl_8 _ (List.mem_of_getElem? (i := 12) rfl)) rfl dX12_isSaid_213 rfl ?_
    refine r_iconst dX12_isSaid_216 (by decide) ?_
    obtain ⟨v217, hg217, hr⟩ := bnd hr
    refine r_zald dX12_isSaid_217 hg217 ?_
    obtain rfl := Option.some.inj hr
    exact r_ret dX12_isSaid_218 rfl (Or.inr ⟨rfl, rfl⟩) (k0 _ hk) ⟨rfl, rfl⟩
  · have hr := ifp hr hc
    refine r_sipush dX12_isSaid_16 (by decide) (by decide) ?_
    refine r_iconst dX12_isSaid_19 (by decide) ?_
    refine r_iload_n dX12_isSaid_20 rfl 3 rfl (Or.inl rfl) ?_
    refine r_imul dX12_isSaid_21 ?_
    refine r_iadd dX12_isSaid_22 ?_
    refine r_istore dX12_isSaid_23 (Or.inl rfl) (by decide) (lv' := [(4, (0, w32 (1240 + (w32 (3 * l3))))), (0, (22, a0)), (1, (0, a1)), (2, (0, l2)), (3, (0, l3))]) rfl ?_
    refine r_aload_n dX12_isSaid_25 rfl 1 rfl (nl rfl) ?_
    refine r_get 12 6 (o := a0) (w := (50, h a0 6)) (T := TX12) (ref := "FollowingRefsModel") rfl (by decide) rfl (by decide) inlX12 (wsl_7 _ (List.mem_of_getElem? (i := 8) rfl)) rfl dX12_isSaid_26 rfl ?_
    refine r_iload dX12_isSaid_29 0 rfl (Or.inl rfl) ?_
    obtain ⟨v31, hg31, hr⟩ := bnd hr
    refine r_iald dX12_isSaid_31 hg31 ?_
    refine r_bipush dX12_isSaid_32 (by decide) (by decide) ?_
    refine r_icmp_ne dX12_isSaid_34 (tgt := 64) (by decide) (fun hc => ?_) (fun hc => ?_)
    · have hr := ifn hr hc
      refine r_aload_n dX12_isSaid_64 rfl 1 rfl (nl rfl) ?_
      refine r_get 12 6 (o := a0) (w := (50, h a0 6)) (T := TX12) (ref := "FollowingRefsModel") rfl (by decide) rfl (by decide) inlX12 (wsl_7 _ (List.mem_of_getElem? (i := 8) rfl)) rfl dX12_isSaid_65 rfl ?_
      refine r_iload dX12_isSaid_68 0 rfl (Or.inl rfl) ?_
      obtain ⟨v70, hg70, hr⟩ := bnd hr
      refine r_iald dX12_isSaid_70 hg70 ?_
      refine r_bipush dX12_isSaid_71 (by decide) (by decide) ?_
      refine r_icmp_eq dX12_isSaid_73 (tgt := 88) (by decide) (fun hc => ?_) (fun hc => ?_)
      · have hr := ifp hr hc
        refine r_sub [1, 2, 3, 4, 0] (lv' := [(0, (22, a0)), (1, (0, a1)), (2, (0, l2)), (3, (0, l3)), (4, (0, w32 (1240 + (w32 (3 * l3)))))]) rfl ?_
        exact oX12_isSaid_b88 (K := K) (fun r z => k0 r z) (fun _ _ _ z => k1 _ _ _ z) hr hk
      · have hr := ifn hr hc
        refine r_aload_n dX12_isSaid_76 rfl 1 rfl (nl rfl) ?_
        refine r_get 12 6 (o := a0) (w := (50, h a0 6)) (T := TX12) (ref := "FollowingRefsModel") rfl (by decide) rfl (by decide) inlX12 (wsl_7 _ (List.mem_of_getElem? (i := 8) rfl)) rfl dX12_isSaid_77 rfl ?_
        refine r_iload dX12_isSaid_80 0 rfl (Or.inl rfl) ?_
        obtain ⟨v82, hg82, hr⟩ := bnd hr
        refine r_iald dX12_isSaid_82 hg82 ?_
        refine r_bipush dX12_isSaid_83 (by decide) (by decide) ?_
        refine r_icmp_ne dX12_isSaid_85 (tgt := 167) (by decide) (fun hc => ?_) (fun hc => ?_)
        · have hr := ifn hr hc
          refine r_aload_n dX12_isSaid_167 rfl 1 rfl (nl rfl) ?_
          refine r_get 12 62 (o := a0) (w := (53, h a0 62)) (T := TX12) (ref := "FollowingRefsModel") rfl (by decide) rfl (by decide) inlX12 (wsl_8 _ (List.mem_of_getElem? (i := 12) rfl)) rfl dX12_isSaid_168 rfl ?_
          refine r_iload_n dX12_isSaid_171 rfl 3 rfl (Or.inl rfl) ?_
          refine r_aload_n dX12_isSaid_172 rfl 1 rfl (nl rfl) ?_
          refine r_iload_n dX12_isSaid_173 rfl 2 rfl (Or.inl rfl) ?_
          refine r_aload_n dX12_isSaid_174 rfl 1 rfl (nl rfl) ?_
          refine r_get 12 6 (o := a0) (w := (50, h a0 6)) (T := TX12) (ref := "FollowingRefsModel") rfl (by decide) rfl (by decide) inlX12 (wsl_7 _ (List.mem_of_getElem? (i := 8) rfl)) rfl dX12_isSaid_175 rfl ?_
          refine r_iload dX12_isSaid_178 0 rfl (Or.inl rfl) ?_
          obtain ⟨v180, hg180, hr⟩ := bnd hr
          refine r_iald dX12_isSaid_180 hg180 ?_
          refine r_aload_n dX12_isSaid_181 rfl 1 rfl (nl rfl) ?_
          refine r_get 12 6 (o := a0) (w := (50, h a0 6)) (T := TX12) (ref := "FollowingRefsModel") rfl (by decide) rfl (by decide) inlX12 (wsl_7 _ (List.mem_of_getElem? (i := 8) rfl)) rfl dX12_isSaid_182 rfl ?_
          refine r_iload dX12_isSaid_185 0 rfl (Or.inl rfl) ?_
          refine r_iconst dX12_isSaid_187 (by decide) ?_
          refine r_iadd dX12_isSaid_188 ?_
          obtain ⟨v189, hg189, hr⟩ := bnd hr
          refine r_iald dX12_isSaid_189 hg189 ?_
          refine r_aload_n dX12_isSaid_190 rfl 1 rfl (nl rfl) ?_
          refine r_get 12 6 (o := a0) (w := (50, h a0 6)) (T := TX12) (ref := "FollowingRefsModel") rfl (by decide) rfl (by decide) inlX12 (wsl_7 _ (List.mem_of_getElem? (i := 8) rfl)) rfl dX12_isSaid_191 rfl ?_
          refine r_iload dX12_isSaid_194 0 rfl (Or.inl rfl) ?_
          refine r_iconst dX12_isSaid_196 (by decide) ?_
          refine r_iadd dX12_isSaid_197 ?_
          obtain ⟨v198, hg198, hr⟩ := bnd hr
          refine r_iald dX12_isSaid_198 hg198 ?_
          obtain ⟨q199, hg199, hr⟩ := bnd hr
          refine k_V (ci := 12) (o := a0) (T := TX12) (as := [(0, a1), (0, v180), (0, v189), (0, v198)]) (rest := [(0, l2), (53, h a0 62)]) (X := (some (2, q199.1), q199.2)) (oX12_isLeaf hg199) gX12_isLeaf rfl (by decide) rfl (wsl_71 _ (List.mem_of_getElem? (i := 19) rfl)) rfl dX12_isSaid_199 rfl ?_
          obtain ⟨h202, hg202, hr⟩ := bnd hr
          refine r_zast dX12_isSaid_202 hg202 ?_
          refine r_iinc (k := 3) (v := l2) dX12_isSaid_203 rfl (by decide) (lv' := [(2, (0, w32 (l2 + 1))), (4, (0, w32 (1240 + (w32 (3 * l3))))), (0, (22, a0)), (1, (0, a1)), (3, (0, l3))]) rfl ?_
          refine r_iinc (k := 4) (v := l3) dX12_isSaid_206 rfl (by decide) (lv' := [(3, (0, w32 (l3 + 1))), (2, (0, w32 (l2 + 1))), (4, (0, w32 (1240 + (w32 (3 * l3))))), (0, (22, a0)), (1, (0, a1))]) rfl ?_
          refine r_goto dX12_isSaid_209 (tgt := 4) (by decide) ?_
          refine r_sub [3, 4, 1, 0] (lv' := [(0, (22, a0)), (1, (0, a1)), (2, (0, w32 (l2 + 1))), (3, (0, w32 (l3 + 1)))]) rfl ?_
          obtain rfl := Option.some.inj hr
          exact k1 _ _ _ hk
        · have hr := ifp hr hc
          refine r_sub [1, 2, 3, 4, 0] (lv' := [(0, (22, a0)), (1, (0, a1)), (2, (0, l2)), (3, (0, l3)), (4, (0, w32 (1240 + (w32 (3 * l3)))))]) rfl ?_
          exact oX12_isSaid_b88 (K := K) (fun r z => k0 r z) (fun _ _ _ z => k1 _ _ _ z) hr hk
    · have hr := ifp hr hc
      refine r_aload_n dX12_isSaid_37 rfl 1 rfl (nl rfl) ?_
      refine r_get 12 62 (o := a0) (w := (53, h a0 62)) (T := TX12) (ref := "FollowingRefsModel") rfl (by decide) rfl (by decide) inlX12 (wsl_8 _ (List.mem_of_getElem? (i := 12) rfl)) rfl dX12_isSaid_38 rfl ?_
      refine r_iload_n dX12_isSaid_41 rfl 3 rfl (Or.inl rfl) ?_
      refine r_iconst dX12_isSaid_42 (by decide) ?_
      refine r_isub dX12_isSaid_43 ?_
      refine r_aload_n dX12_isSaid_44 rfl 1 rfl (nl rfl) ?_
      refine r_get 12 62 (o := a0) (w := (53, h a0 62)) (T := TX12) (ref := "FollowingRefsModel") rfl (by decide) rfl (by decide) inlX12 (wsl_8 _ (List.mem_of_getElem? (i := 12) rfl)) rfl dX12_isSaid_45 rfl ?_
      refine r_iload_n dX12_isSaid_48 rfl 3 rfl (Or.inl rfl) ?_
      refine r_iconst dX12_isSaid_49 (by decide) ?_
      refine r_isub dX12_isSaid_50 ?_
      obtain ⟨v51, hg51, hr⟩ := bnd hr
      refine r_zald dX12_isSaid_51 hg51 ?_
      refine r_scast 0 (v := (2, v51)) (w := (0, v51)) rfl zc hTz (st' := [(0, v51), (0, w32 (l2 - 1)), (53, h a0 62)]) rfl ?_
      refine r_if_ne dX12_isSaid_52 (tgt := 59) (by decide) (fun hc => ?_) (fun hc => ?_)
      · have hr := ifn hr hc
        refine r_iconst dX12_isSaid_59 (by decide) ?_
        refine r_sub [1, 2, 3, 4] (lv' := [(0, (22, a0)), (1, (0, a1)), (2, (0, l2)), (3, (0, l3))]) rfl ?_
        refine r_scast 0 (v := (0, 0)) (w := (2, 0)) rfl cz (fun _ => Or.inl rfl) (st' := [(2, 0), (0, w32 (l2 - 1)), (53, h a0 62)]) rfl ?_
        exact oX12_isSaid_b60 (K := K) (fun r z => k0 r z) (fun _ _ _ z => k1 _ _ _ z) hr hk
      · have hr := ifp hr hc
        refine r_iconst dX12_isSaid_55 (by decide) ?_
        refine r_goto dX12_isSaid_56 (tgt := 60) (by decide) ?_
        refine r_sub [1, 2, 3, 4] (lv' := [(0, (22, a0)), (1, (0, a1)), (2, (0, l2)), (3, (0, l3))]) rfl ?_
        refine r_scast 0 (v := (0, 1)) (w := (2, 1)) rfl cz (fun _ => Or.inr rfl) (st' := [(2, 1), (0, w32 (l2 - 1)), (53, h a0 62)]) rfl ?_
        exact oX12_isSaid_b60 (K := K) (fun r z => k0 r z) (fun _ _ _ z => k1 _ _ _ z) hr hk
set_option maxRecDepth 100000 in
set_option maxHeartbeats 4000000 in
theorem oX12_isSaid_b0 {a0 a1 : Int} {K : Int × hH → Prop} (k0 : ∀ r, K (r) → x = (some (2, r.1), r.2)) {r : Int × hH} (hr : fX12_isSaid h a0 a1 = some r) (hk : K r) : Wq p l e R s m args below meth c D G A H0 true n0 M_X12_isSaid x 0 0 0 [(0, (22, a0)), (1, (0, a1))] [] h := by
  unfold fX12_isSaid at hr
  refine r_iconst dX12_isSaid_0 (by decide) ?_
  refine r_istore_n dX12_isSaid_1 rfl (Or.inl rfl) (by decide) (lv' := [(2, (0, 0)), (0, (22, a0)), (1, (0, a1))]) rfl ?_
  refine r_iconst dX12_isSaid_2 (by decide) ?_
  refine r_istore_n dX12_isSaid_3 rfl (Or.inl rfl) (by decide) (lv' := [(3, (0, 0)), (2, (0, 0)), (0, (22, a0)), (1, (0, a1))]) rfl ?_
  refine r_sub [2, 3, 1, 0] (lv' := [(0, (22, a0)), (1, (0, a1)), (2, (0, 0)), (3, (0, 0))]) rfl ?_
  exact lp_ok (w := fun (q : hH × Int × Int) => Wq p l e R s m args below meth c D G A H0 true n0 M_X12_isSaid x 0 0 4 [(0, (22, a0)), (1, (0, a1)), (2, (0, q.2.1)), (3, (0, q.2.2))] [] (q.1)) (K := K) (fun ⟨q0, q1, q2⟩ r h1 h2 => oX12_isSaid_s4 (K := Sum.elim (fun (q : hH × Int × Int) => Wq p l e R s m args below meth c D G A H0 true n0 M_X12_isSaid x 0 0 4 [(0, (22, a0)), (1, (0, a1)), (2, (0, q.2.1)), (3, (0, q.2.2))] [] (q.1)) (K)) (fun r z => k0 r z) (fun _ _ _ z => z) h1 h2) hr hk
end M_X12_isSaid
theorem oX12_isSaid {l : Launch} {D : va_G} {G : gG} {h : hH} {a0 a1 : Int} {r : Int × hH} (hr : fX12_isSaid h a0 a1 = some r) : Ctr l D G true yX12_isSaid M_X12_isSaid [(22, a0), (0, a1)] h (some (2, r.1), r.2) :=
  Ctr_of (by decide) rfl (fun z => by cases z) (nl rfl) (fun {p e R s m args below meth c A H0} => by
    exact oX12_isSaid_b0 (K := fun z9 => z9 = r) (fun r9 z => by rw [z]) hr rfl)
/-! X12_said -/
theorem dX12_said_0 : decode cX12_said 0 = .ok (.aload_n 0, 1) := by decide +kernel
theorem dX12_said_1 : decode cX12_said 1 = .ok (.iconst 0, 1) := by decide +kernel
theorem dX12_said_2 : decode cX12_said 2 = .ok (.putfield 1, 3) := by decide +kernel
theorem dX12_said_5 : decode cX12_said 5 = .ok (.aload_n 0, 1) := by decide +kernel
theorem dX12_said_6 : decode cX12_said 6 = .ok (.getfield 33, 3) := by decide +kernel
theorem dX12_said_9 : decode cX12_said 9 = .ok (.sipush 1239, 3) := by decide +kernel
theorem dX12_said_12 : decode cX12_said 12 = .ok (.iaload, 1) := by decide +kernel
theorem dX12_said_13 : decode cX12_said 13 = .ok (.ifCond .eq 8, 3) := by decide +kernel
theorem dX12_said_16 : decode cX12_said 16 = .ok (.iload_n 1, 1) := by decide +kernel
theorem dX12_said_17 : decode cX12_said 17 = .ok (.iconst (-1), 1) := by decide +kernel
theorem dX12_said_18 : decode cX12_said 18 = .ok (.if_icmp .ge 5, 3) := by decide +kernel
theorem dX12_said_21 : decode cX12_said 21 = .ok (.iconst (-1), 1) := by decide +kernel
theorem dX12_said_22 : decode cX12_said 22 = .ok (.ireturn, 1) := by decide +kernel
theorem dX12_said_23 : decode cX12_said 23 = .ok (.iconst 0, 1) := by decide +kernel
theorem dX12_said_24 : decode cX12_said 24 = .ok (.istore_n 2, 1) := by decide +kernel
theorem dX12_said_25 : decode cX12_said 25 = .ok (.iconst 0, 1) := by decide +kernel
theorem dX12_said_26 : decode cX12_said 26 = .ok (.istore_n 3, 1) := by decide +kernel
theorem dX12_said_27 : decode cX12_said 27 = .ok (.iload_n 3, 1) := by decide +kernel
theorem dX12_said_28 : decode cX12_said 28 = .ok (.bipush 99, 2) := by decide +kernel
theorem dX12_said_30 : decode cX12_said 30 = .ok (.if_icmp .ge 43, 3) := by decide +kernel
theorem dX12_said_33 : decode cX12_said 33 = .ok (.aload_n 0, 1) := by decide +kernel
theorem dX12_said_34 : decode cX12_said 34 = .ok (.getfield 33, 3) := by decide +kernel
theorem dX12_said_37 : decode cX12_said 37 = .ok (.sipush 150, 3) := by decide +kernel
theorem dX12_said_40 : decode cX12_said 40 = .ok (.iload_n 3, 1) := by decide +kernel
theorem dX12_said_41 : decode cX12_said 41 = .ok (.iadd, 1) := by decide +kernel
theorem dX12_said_42 : decode cX12_said 42 = .ok (.iaload, 1) := by decide +kernel
theorem dX12_said_43 : decode cX12_said 43 = .ok (.ifCond .eq 24, 3) := by decide +kernel
theorem dX12_said_46 : decode cX12_said 46 = .ok (.aload_n 0, 1) := by decide +kernel
theorem dX12_said_47 : decode cX12_said 47 = .ok (.iload_n 3, 1) := by decide +kernel
theorem dX12_said_48 : decode cX12_said 48 = .ok (.invokevirtual 597, 3) := by decide +kernel
theorem dX12_said_51 : decode cX12_said 51 = .ok (.ifCond .ne 6, 3) := by decide +kernel
theorem dX12_said_54 : decode cX12_said 54 = .ok (.goto 13, 3) := by decide +kernel
theorem dX12_said_57 : decode cX12_said 57 = .ok (.iload_n 2, 1) := by decide +kernel
theorem dX12_said_58 : decode cX12_said 58 = .ok (.iload_n 1, 1) := by decide +kernel
theorem dX12_said_59 : decode cX12_said 59 = .ok (.if_icmp .ne 5, 3) := by decide +kernel
theorem dX12_said_62 : decode cX12_said 62 = .ok (.iload_n 3, 1) := by decide +kernel
theorem dX12_said_63 : decode cX12_said 63 = .ok (.ireturn, 1) := by decide +kernel
theorem dX12_said_64 : decode cX12_said 64 = .ok (.iinc 2 1, 3) := by decide +kernel
theorem dX12_said_67 : decode cX12_said 67 = .ok (.iinc 3 1, 3) := by decide +kernel
theorem dX12_said_70 : decode cX12_said 70 = .ok (.goto (-43), 3) := by decide +kernel
theorem dX12_said_73 : decode cX12_said 73 = .ok (.iload_n 1, 1) := by decide +kernel
theorem dX12_said_74 : decode cX12_said 74 = .ok (.iconst (-1), 1) := by decide +kernel
theorem dX12_said_75 : decode cX12_said 75 = .ok (.if_icmp .ne 7, 3) := by decide +kernel
theorem dX12_said_78 : decode cX12_said 78 = .ok (.iload_n 2, 1) := by decide +kernel
theorem dX12_said_79 : decode cX12_said 79 = .ok (.goto 4, 3) := by decide +kernel
theorem dX12_said_82 : decode cX12_said 82 = .ok (.iconst (-1), 1) := by decide +kernel
theorem dX12_said_83 : decode cX12_said 83 = .ok (.ireturn, 1) := by decide +kernel
abbrev M_X12_said : mM := (cX12_said, 4, RX12, some .int, false, 8, 192, 0, 0)
theorem gX12_said : cI yX12_said M_X12_said 1 := ⟨(wsl_71 _ (List.mem_of_getElem? (i := 12) rfl)), (wsl_71 _ (List.mem_of_getElem? (i := 13) rfl)), (wsl_1 _ (List.mem_of_getElem? (i := 5) rfl)), (wsl_71 _ (List.mem_of_getElem? (i := 14) rfl)), by decide +kernel⟩
noncomputable def fX12_said_s27 (h0 : hH) (a0 a1 : Int) : hH × Int × Int → Option ((hH × Int × Int) ⊕ (Int × hH)) := fun (h, l2, l3) =>
  if l3 < 99 then
    (aget h (h a0 6) (w32 (150 + l3))).bind fun v42 =>
    if v42 = 0 then
      some (.inl (h, l2, w32 (l3 + 1)))
    else
      (fX12_isSaid h a0 l3).bind fun q48 =>
      if q48.1 = 0 then
        some (.inl (q48.2, l2, w32 (l3 + 1)))
      else
        if l2 = a1 then
          some (.inr ((l3, q48.2)))
        else
          some (.inl (q48.2, w32 (l2 + 1), w32 (l3 + 1)))
  else
    if a1 = -1 then
      some (.inr ((l2, h)))
    else
      some (.inr ((-1, h)))
noncomputable def fX12_said (h : hH) (a0 a1 : Int) : Option (Int × hH) :=
  (pput h a0 0 0).bind fun h2 =>
  (aget h2 (h2 a0 6) 1239).bind fun v12 =>
  if v12 = 0 then
    some (-1, h2)
  else
    if a1 < -1 then
      some (-1, h2)
    else
      lpO (fX12_said_s27 h2 a0 a1) (h2, 0, 0)
section M_X12_said
variable {p : Program} {l : Launch} {e : Env} {R : Room} {s : State} {m : MethodId} {args : Array Value} {below : List Frame} {meth : Method} {c : Code} {D : va_G} {G : gG} {A : Nat → Prop} {H0 : Heap} {n0 : Int} {x : Option vV × hH} {h : hH}
set_option maxRecDepth 100000 in
set_option maxHeartbeats 4000000 in
theorem oX12_said_s27 {h0 : hH} {a0 a1 l2 l3 : Int} {K : (hH × Int × Int) ⊕ (Int × hH) → Prop} (k0 : ∀ r, K (.inr (r)) → x = (some (0, r.1), r.2)) (k1 : ∀ (h : hH) (l2 : Int) (l3 : Int), K (.inl (h, l2, l3)) → Wq p l e R s m args below meth c D G A H0 true n0 M_X12_said x 0 0 27 [(0, (22, a0)), (1, (0, a1)), (2, (0, l2)), (3, (0, l3))] [] h) {r : (hH × Int × Int) ⊕ (Int × hH)} (hr : fX12_said_s27 h0 a0 a1 (h, l2, l3) = some r) (hk : K r) : Wq p l e R s m args below meth c D G A H0 true n0 M_X12_said x 0 0 27 [(0, (22, a0)), (1, (0, a1)), (2, (0, l2)), (3, (0, l3))] [] h := by
  unfold fX12_said_s27 at hr
  refine r_iload_n dX12_said_27 rfl 3 rfl (Or.inl rfl) ?_
  refine r_bipush dX12_said_28 (by decide) (by decide) ?_
  refine r_icmp_ge dX12_said_30 (tgt := 73) (by decide) (fun hc => ?_) (fun hc => ?_)
  · have hr := ifn hr hc
    refine r_iload_n dX12_said_73 rfl 1 rfl (Or.inl rfl) ?_
    refine r_iconst dX12_said_74 (by decide) ?_
    refine r_icmp_ne dX12_said_75 (tgt := 82) (by decide) (fun hc => ?_) (fun hc => ?_)
    · have hr := ifn hr hc
      refine r_iconst dX12_said_82 (by decide) ?_
      obtain rfl := Option.some.inj hr
      exact r_ret dX12_said_83 rfl (Or.inl ⟨rfl, rfl⟩) (k0 _ hk) ⟨rfl, rfl⟩
    · have hr := ifp hr hc
      refine r_iload_n dX12_said_78 rfl 2 rfl (Or.inl rfl) ?_
      refine r_goto dX12_said_79 (tgt := 83) (by decide) ?_
      obtain rfl := Option.some.inj hr
      exact r_ret dX12_said_83 rfl (Or.inl ⟨rfl, rfl⟩) (k0 _ hk) ⟨rfl, rfl⟩
  · have hr := ifp hr hc
    refine r_aload_n dX12_said_33 rfl 0 rfl (nl rfl) ?_
    refine r_get 12 6 (o := a0) (w := (50, h a0 6)) (T := TX12) (ref := "FollowingRefsModel") rfl (by decide) rfl (by decide) inlX12 (wsl_7 _ (List.mem_of_getElem? (i := 8) rfl)) rfl dX12_said_34 rfl ?_
    refine r_sipush dX12_said_37 (by decide) (by decide) ?_
    refine r_iload_n dX12_said_40 rfl 3 rfl (Or.inl rfl) ?_
    refine r_iadd dX12_said_41 ?_
    obtain ⟨v42, hg42, hr⟩ := bnd hr
    refine r_iald dX12_said_42 hg42 ?_
    refine r_if_eq dX12_said_43 (tgt := 67) (by decide) (fun hc => ?_) (fun hc => ?_)
    · have hr := ifp hr hc
      refine r_iinc (k := 3) (v := l3) dX12_said_67 rfl (by decide) (lv' := [(3, (0, w32 (l3 + 1))), (0, (22, a0)), (1, (0, a1)), (2, (0, l2))]) rfl ?_
      refine r_goto dX12_said_70 (tgt := 27) (by decide) ?_
      refine r_sub [1, 2, 3, 0] (lv' := [(0, (22, a0)), (1, (0, a1)), (2, (0, l2)), (3, (0, w32 (l3 + 1)))]) rfl ?_
      obtain rfl := Option.some.inj hr
      exact k1 _ _ _ hk
    · have hr := ifn hr hc
      refine r_aload_n dX12_said_46 rfl 0 rfl (nl rfl) ?_
      refine r_iload_n dX12_said_47 rfl 3 rfl (Or.inl rfl) ?_
      obtain ⟨q48, hg48, hr⟩ := bnd hr
      refine k_V (ci := 12) (o := a0) (T := TX12) (as := [(0, l3)]) (rest := []) (X := (some (2, q48.1), q48.2)) (oX12_isSaid hg48) gX12_isSaid rfl (by decide) rfl (wsl_71 _ (List.mem_of_getElem? (i := 15) rfl)) rfl dX12_said_48 rfl ?_
      refine r_scast 0 (v := (2, q48.1)) (w := (0, q48.1)) rfl zc hTz (st' := [(0, q48.1)]) rfl ?_
      refine r_if_ne dX12_said_51 (tgt := 57) (by decide) (fun hc => ?_) (fun hc => ?_)
      · have hr := ifn hr hc
        refine r_iload_n dX12_said_57 rfl 2 rfl (Or.inl rfl) ?_
        refine r_iload_n dX12_said_58 rfl 1 rfl (Or.inl rfl) ?_
        refine r_icmp_ne dX12_said_59 (tgt := 64) (by decide) (fun hc => ?_) (fun hc => ?_)
        · have hr := ifn hr hc
          refine r_iinc (k := 2) (v := l2) dX12_said_64 rfl (by decide) (lv' := [(2, (0, w32 (l2 + 1))), (0, (22, a0)), (1, (0, a1)), (3, (0, l3))]) rfl ?_
          refine r_iinc (k := 3) (v := l3) dX12_said_67 rfl (by decide) (lv' := [(3, (0, w32 (l3 + 1))), (2, (0, w32 (l2 + 1))), (0, (22, a0)), (1, (0, a1))]) rfl ?_
          refine r_goto dX12_said_70 (tgt := 27) (by decide) ?_
          refine r_sub [2, 3, 1, 0] (lv' := [(0, (22, a0)), (1, (0, a1)), (2, (0, w32 (l2 + 1))), (3, (0, w32 (l3 + 1)))]) rfl ?_
          obtain rfl := Option.some.inj hr
          exact k1 _ _ _ hk
        · have hr := ifp hr hc
          refine r_iload_n dX12_said_62 rfl 3 rfl (Or.inl rfl) ?_
          obtain rfl := Option.some.inj hr
          exact r_ret dX12_said_63 rfl (Or.inl ⟨rfl, rfl⟩) (k0 _ hk) ⟨rfl, rfl⟩
      · have hr := ifp hr hc
        refine r_goto dX12_said_54 (tgt := 67) (by decide) ?_
        refine r_iinc (k := 3) (v := l3) dX12_said_67 rfl (by decide) (lv' := [(3, (0, w32 (l3 + 1))), (0, (22, a0)), (1, (0, a1)), (2, (0, l2))]) rfl ?_
        refine r_goto dX12_said_70 (tgt := 27) (by decide) ?_
        refine r_sub [1, 2, 3, 0] (lv' := [(0, (22, a0)), (1, (0, a1)), (2, (0, l2)), (3, (0, w32 (l3 + 1)))]) rfl ?_
        obtain rfl := Option.some.inj hr
        exact k1 _ _ _ hk
set_option maxRecDepth 100000 in
set_option maxHeartbeats 4000000 in
theorem oX12_said_b0 {a0 a1 : Int} {K : Int × hH → Prop} (k0 : ∀ r, K (r) → x = (some (0, r.1), r.2)) {r : Int × hH} (hr : fX12_said h a0 a1 = some r) (hk : K r) : Wq p l e R s m args below meth c D G A H0 true n0 M_X12_said x 0 0 0 [(0, (22, a0)), (1, (0, a1))] [] h := by
  unfold fX12_said at hr
  refine r_aload_n dX12_said_0 rfl 0 rfl (nl rfl) ?_
  refine r_iconst dX12_said_1 (by decide) ?_
  obtain ⟨h2, hg2, hr⟩ := bnd hr
  refine r_put' 12 0 (t := 0) (ref := "FollowingRefsModel") hg2 rfl tyX12 tyX12_ok nmX12 rfl (by decide) rfl (by decide) inlX12 (wsl_10 _ (List.mem_of_getElem? (i := 11) rfl)) rfl rfl (by decide +kernel) (by decide) rfl (Or.inl ⟨rfl, rfl⟩) dX12_said_2 ?_
  refine r_aload_n dX12_said_5 rfl 0 rfl (nl rfl) ?_
  refine r_get 12 6 (o := a0) (w := (50, h2 a0 6)) (T := TX12) (ref := "FollowingRefsModel") rfl (by decide) rfl (by decide) inlX12 (wsl_7 _ (List.mem_of_getElem? (i := 8) rfl)) rfl dX12_said_6 rfl ?_
  refine r_sipush dX12_said_9 (by decide) (by decide) ?_
  obtain ⟨v12, hg12, hr⟩ := bnd hr
  refine r_iald dX12_said_12 hg12 ?_
  refine r_if_eq dX12_said_13 (tgt := 21) (by decide) (fun hc => ?_) (fun hc => ?_)
  · have hr := ifp hr hc
    refine r_iconst dX12_said_21 (by decide) ?_
    obtain rfl := Option.some.inj hr
    exact r_ret dX12_said_22 rfl (Or.inl ⟨rfl, rfl⟩) (k0 _ hk) ⟨rfl, rfl⟩
  · have hr := ifn hr hc
    refine r_iload_n dX12_said_16 rfl 1 rfl (Or.inl rfl) ?_
    refine r_iconst dX12_said_17 (by decide) ?_
    refine r_icmp_ge dX12_said_18 (tgt := 23) (by decide) (fun hc => ?_) (fun hc => ?_)
    · have hr := ifn hr hc
      refine r_iconst dX12_said_23 (by decide) ?_
      refine r_istore_n dX12_said_24 rfl (Or.inl rfl) (by decide) (lv' := [(2, (0, 0)), (0, (22, a0)), (1, (0, a1))]) rfl ?_
      refine r_iconst dX12_said_25 (by decide) ?_
      refine r_istore_n dX12_said_26 rfl (Or.inl rfl) (by decide) (lv' := [(3, (0, 0)), (2, (0, 0)), (0, (22, a0)), (1, (0, a1))]) rfl ?_
      refine r_sub [2, 3, 1, 0] (lv' := [(0, (22, a0)), (1, (0, a1)), (2, (0, 0)), (3, (0, 0))]) rfl ?_
      exact lp_ok (w := fun (q : hH × Int × Int) => Wq p l e R s m args below meth c D G A H0 true n0 M_X12_said x 0 0 27 [(0, (22, a0)), (1, (0, a1)), (2, (0, q.2.1)), (3, (0, q.2.2))] [] (q.1)) (K := K) (fun ⟨q0, q1, q2⟩ r z1 z2 => oX12_said_s27 (K := Sum.elim (fun (q : hH × Int × Int) => Wq p l e R s m args below meth c D G A H0 true n0 M_X12_said x 0 0 27 [(0, (22, a0)), (1, (0, a1)), (2, (0, q.2.1)), (3, (0, q.2.2))] [] (q.1)) (K)) (fun r z => k0 r z) (fun _ _ _ z => z) z1 z2) hr hk
    · have hr := ifp hr hc
      refine r_iconst dX12_said_21 (by decide) ?_
      obtain rfl := Option.some.inj hr
      exact r_ret dX12_said_22 rfl (Or.inl ⟨rfl, rfl⟩) (k0 _ hk) ⟨rfl, rfl⟩
end M_X12_said
theorem oX12_said {l : Launch} {D : va_G} {G : gG} {h : hH} {a0 a1 : Int} {r : Int × hH} (hr : fX12_said h a0 a1 = some r) : Ctr l D G true yX12_said M_X12_said [(22, a0), (0, a1)] h (some (0, r.1), r.2) :=
  Ctr_of (by decide) rfl (fun z => by cases z) (nl rfl) (fun {p e R s m args below meth c A H0} => by
    exact oX12_said_b0 (K := fun z9 => z9 = r) (fun r9 z => by rw [z]) hr rfl)
/-! X12_image -/
theorem dX12_image_0 : decode cX12_image 0 = .ok (.aload_n 0, 1) := by decide +kernel
theorem dX12_image_1 : decode cX12_image 1 = .ok (.iconst 0, 1) := by decide +kernel
theorem dX12_image_2 : decode cX12_image 2 = .ok (.putfield 1, 3) := by decide +kernel
theorem dX12_image_5 : decode cX12_image 5 = .ok (.iload_n 1, 1) := by decide +kernel
theorem dX12_image_6 : decode cX12_image 6 = .ok (.iconst 0, 1) := by decide +kernel
theorem dX12_image_7 : decode cX12_image 7 = .ok (.iconst 1, 1) := by decide +kernel
theorem dX12_image_8 : decode cX12_image 8 = .ok (.invokestatic 229, 3) := by decide +kernel
theorem dX12_image_11 : decode cX12_image 11 = .ok (.ifCond .ne 5, 3) := by decide +kernel
theorem dX12_image_14 : decode cX12_image 14 = .ok (.iconst 0, 1) := by decide +kernel
theorem dX12_image_15 : decode cX12_image 15 = .ok (.ireturn, 1) := by decide +kernel
theorem dX12_image_16 : decode cX12_image 16 = .ok (.iconst 0, 1) := by decide +kernel
theorem dX12_image_17 : decode cX12_image 17 = .ok (.istore_n 2, 1) := by decide +kernel
theorem dX12_image_18 : decode cX12_image 18 = .ok (.iload_n 2, 1) := by decide +kernel
theorem dX12_image_19 : decode cX12_image 19 = .ok (.sipush 1420, 3) := by decide +kernel
theorem dX12_image_22 : decode cX12_image 22 = .ok (.if_icmp .ge 27, 3) := by decide +kernel
theorem dX12_image_25 : decode cX12_image 25 = .ok (.aload_n 0, 1) := by decide +kernel
theorem dX12_image_26 : decode cX12_image 26 = .ok (.getfield 120, 3) := by decide +kernel
theorem dX12_image_29 : decode cX12_image 29 = .ok (.sipush 1420, 3) := by decide +kernel
theorem dX12_image_32 : decode cX12_image 32 = .ok (.iload_n 1, 1) := by decide +kernel
theorem dX12_image_33 : decode cX12_image 33 = .ok (.imul, 1) := by decide +kernel
theorem dX12_image_34 : decode cX12_image 34 = .ok (.iload_n 2, 1) := by decide +kernel
theorem dX12_image_35 : decode cX12_image 35 = .ok (.iadd, 1) := by decide +kernel
theorem dX12_image_36 : decode cX12_image 36 = .ok (.aload_n 0, 1) := by decide +kernel
theorem dX12_image_37 : decode cX12_image 37 = .ok (.getfield 33, 3) := by decide +kernel
theorem dX12_image_40 : decode cX12_image 40 = .ok (.iload_n 2, 1) := by decide +kernel
theorem dX12_image_41 : decode cX12_image 41 = .ok (.iaload, 1) := by decide +kernel
theorem dX12_image_42 : decode cX12_image 42 = .ok (.iastore, 1) := by decide +kernel
theorem dX12_image_43 : decode cX12_image 43 = .ok (.iinc 2 1, 3) := by decide +kernel
theorem dX12_image_46 : decode cX12_image 46 = .ok (.goto (-28), 3) := by decide +kernel
theorem dX12_image_49 : decode cX12_image 49 = .ok (.iconst 0, 1) := by decide +kernel
theorem dX12_image_50 : decode cX12_image 50 = .ok (.istore_n 2, 1) := by decide +kernel
theorem dX12_image_51 : decode cX12_image 51 = .ok (.iload_n 2, 1) := by decide +kernel
theorem dX12_image_52 : decode cX12_image 52 = .ok (.bipush 20, 2) := by decide +kernel
theorem dX12_image_54 : decode cX12_image 54 = .ok (.if_icmp .ge 26, 3) := by decide +kernel
theorem dX12_image_57 : decode cX12_image 57 = .ok (.aload_n 0, 1) := by decide +kernel
theorem dX12_image_58 : decode cX12_image 58 = .ok (.getfield 123, 3) := by decide +kernel
theorem dX12_image_61 : decode cX12_image 61 = .ok (.bipush 20, 2) := by decide +kernel
theorem dX12_image_63 : decode cX12_image 63 = .ok (.iload_n 1, 1) := by decide +kernel
theorem dX12_image_64 : decode cX12_image 64 = .ok (.imul, 1) := by decide +kernel
theorem dX12_image_65 : decode cX12_image 65 = .ok (.iload_n 2, 1) := by decide +kernel
theorem dX12_image_66 : decode cX12_image 66 = .ok (.iadd, 1) := by decide +kernel
theorem dX12_image_67 : decode cX12_image 67 = .ok (.aload_n 0, 1) := by decide +kernel
theorem dX12_image_68 : decode cX12_image 68 = .ok (.getfield 46, 3) := by decide +kernel
theorem dX12_image_71 : decode cX12_image 71 = .ok (.iload_n 2, 1) := by decide +kernel
theorem dX12_image_72 : decode cX12_image 72 = .ok (.laload, 1) := by decide +kernel
theorem dX12_image_73 : decode cX12_image 73 = .ok (.lastore, 1) := by decide +kernel
theorem dX12_image_74 : decode cX12_image 74 = .ok (.iinc 2 1, 3) := by decide +kernel
theorem dX12_image_77 : decode cX12_image 77 = .ok (.goto (-26), 3) := by decide +kernel
theorem dX12_image_80 : decode cX12_image 80 = .ok (.aload_n 0, 1) := by decide +kernel
theorem dX12_image_81 : decode cX12_image 81 = .ok (.getfield 126, 3) := by decide +kernel
theorem dX12_image_84 : decode cX12_image 84 = .ok (.iload_n 1, 1) := by decide +kernel
theorem dX12_image_85 : decode cX12_image 85 = .ok (.iconst 1, 1) := by decide +kernel
theorem dX12_image_86 : decode cX12_image 86 = .ok (.bastore, 1) := by decide +kernel
theorem dX12_image_87 : decode cX12_image 87 = .ok (.iconst 1, 1) := by decide +kernel
theorem dX12_image_88 : decode cX12_image 88 = .ok (.ireturn, 1) := by decide +kernel
abbrev M_X12_image : mM := (cX12_image, 3, RX12, some .boolean, false, 1, 22, 0, 0)
theorem gX12_image : cI yX12_image M_X12_image 1 := ⟨(wsl_72 _ (List.mem_of_getElem? (i := 20) rfl)), (wsl_72 _ (List.mem_of_getElem? (i := 21) rfl)), (wsl_1 _ (List.mem_of_getElem? (i := 5) rfl)), (wsl_72 _ (List.mem_of_getElem? (i := 22) rfl)), by decide +kernel⟩
noncomputable def fX12_image_s51 (h0 : hH) (a0 a1 : Int) : hH × Int → Option ((hH × Int) ⊕ (Int × hH)) := fun (h, l2) =>
  if l2 < 20 then
    (aget h (h a0 10) l2).bind fun v72 =>
    (aput h (h a0 64) (w32 ((w32 (20 * a1)) + l2)) v72).bind fun h73 =>
    some (.inl (h73, w32 (l2 + 1)))
  else
    (aput h (h a0 65) a1 1).bind fun h86 =>
    some (.inr ((1, h86)))
noncomputable def fX12_image_s18 (h0 : hH) (a0 a1 : Int) : hH × Int → Option ((hH × Int) ⊕ (Int × hH)) := fun (h, l2) =>
  if l2 < 1420 then
    (aget h (h a0 6) l2).bind fun v41 =>
    (aput h (h a0 63) (w32 ((w32 (1420 * a1)) + l2)) v41).bind fun h42 =>
    some (.inl (h42, w32 (l2 + 1)))
  else
    (lpO (fX12_image_s51 h a0 a1) (h, 0)).map (fun z9 => .inr (z9))
noncomputable def fX12_image (h : hH) (a0 a1 : Int) : Option (Int × hH) :=
  (pput h a0 0 0).bind fun h2 =>
  (fX12_isIn h2 a1 0 1).bind fun r8 =>
  if r8 = 0 then
    some (0, h2)
  else
    lpO (fX12_image_s18 h2 a0 a1) (h2, 0)
section M_X12_image
variable {p : Program} {l : Launch} {e : Env} {R : Room} {s : State} {m : MethodId} {args : Array Value} {below : List Frame} {meth : Method} {c : Code} {D : va_G} {G : gG} {A : Nat → Prop} {H0 : Heap} {n0 : Int} {x : Option vV × hH} {h : hH}
set_option maxRecDepth 100000 in
set_option maxHeartbeats 4000000 in
theorem oX12_image_s51 {h0 : hH} {a0 a1 l2 : Int} {K : (hH × Int) ⊕ (Int × hH) → Prop} (k0 : ∀ r, K (.inr (r)) → x = (some (2, r.1), r.2)) (k1 : ∀ (h : hH) (l2 : Int), K (.inl (h, l2)) → Wq p l e R s m args below meth c D G A H0 true n0 M_X12_image x 0 0 51 [(0, (22, a0)), (1, (0, a1)), (2, (0, l2))] [] h) {r : (hH × Int) ⊕ (Int × hH)} (hr : fX12_image_s51 h0 a0 a1 (h, l2) = some r) (hk : K r) : Wq p l e R s m args below meth c D G A H0 true n0 M_X12_image x 0 0 51 [(0, (22, a0)), (1, (0, a1)), (2, (0, l2))] [] h := by
  unfold fX12_image_s51 at hr
  refine r_iload_n dX12_image_51 rfl 2 rfl (Or.inl rfl) ?_
  refine r_bipush dX12_image_52 (by decide) (by decide) ?_
  refine r_icmp_ge dX12_image_54 (tgt := 80) (by decide) (fun hc => ?_) (fun hc => ?_)
  · have hr := ifn hr hc
    refine r_aload_n dX12_image_80 rfl 0 rfl (nl rfl) ?_
    refine r_get 12 65 (o := a0) (w := (53, h a0 65)) (T := TX12) (ref := "FollowingRefsModel") rfl (by decide) rfl (by decide) inlX12 (wsl_8 _ (List.mem_of_getElem? (i := 15) rfl)) rfl dX12_image_81 rfl ?_
    refine r_iload_n dX12_image_84 rfl 1 rfl (Or.inl rfl) ?_
    refine r_iconst dX12_image_85 (by decide) ?_
    refine r_scast 0 (v := (0, 1)) (w := (2, 1)) rfl cz (fun _ => Or.inr rfl) (st' := [(2, 1), (0, a1), (53, h a0 65)]) rfl ?_
    obtain ⟨h86, hg86, hr⟩ := bnd hr
    refine r_zast dX12_image_86 hg86 ?_
    refine r_iconst dX12_image_87 (by decide) ?_
    refine r_scast 0 (v := (0, 1)) (w := (2, 1)) rfl cz (fun _ => Or.inr rfl) (st' := [(2, 1)]) rfl ?_
    obtain rfl := Option.some.inj hr
    exact r_ret dX12_image_88 rfl (Or.inr ⟨rfl, rfl⟩) (k0 _ hk) ⟨rfl, rfl⟩
  · have hr := ifp hr hc
    refine r_aload_n dX12_image_57 rfl 0 rfl (nl rfl) ?_
    refine r_get 12 64 (o := a0) (w := (51, h a0 64)) (T := TX12) (ref := "FollowingRefsModel") rfl (by decide) rfl (by decide) inlX12 (wsl_8 _ (List.mem_of_getElem? (i := 14) rfl)) rfl dX12_image_58 rfl ?_
    refine r_bipush dX12_image_61 (by decide) (by decide) ?_
    refine r_iload_n dX12_image_63 rfl 1 rfl (Or.inl rfl) ?_
    refine r_imul dX12_image_64 ?_
    refine r_iload_n dX12_image_65 rfl 2 rfl (Or.inl rfl) ?_
    refine r_iadd dX12_image_66 ?_
    refine r_aload_n dX12_image_67 rfl 0 rfl (nl rfl) ?_
    refine r_get 12 10 (o := a0) (w := (51, h a0 10)) (T := TX12) (ref := "FollowingRefsModel") rfl (by decide) rfl (by decide) inlX12 (wsl_7 _ (List.mem_of_getElem? (i := 12) rfl)) rfl dX12_image_68 rfl ?_
    refine r_iload_n dX12_image_71 rfl 2 rfl (Or.inl rfl) ?_
    obtain ⟨v72, hg72, hr⟩ := bnd hr
    refine r_lald dX12_image_72 hg72 ?_
    obtain ⟨h73, hg73, hr⟩ := bnd hr
    refine r_last dX12_image_73 hg73 ?_
    refine r_iinc (k := 2) (v := l2) dX12_image_74 rfl (by decide) (lv' := [(2, (0, w32 (l2 + 1))), (0, (22, a0)), (1, (0, a1))]) rfl ?_
    refine r_goto dX12_image_77 (tgt := 51) (by decide) ?_
    refine r_sub [1, 2, 0] (lv' := [(0, (22, a0)), (1, (0, a1)), (2, (0, w32 (l2 + 1)))]) rfl ?_
    obtain rfl := Option.some.inj hr
    exact k1 _ _ hk
set_option maxRecDepth 100000 in
set_option maxHeartbeats 4000000 in
theorem oX12_image_s18 {h0 : hH} {a0 a1 l2 : Int} {K : (hH × Int) ⊕ (Int × hH) → Prop} (k0 : ∀ r, K (.inr (r)) → x = (some (2, r.1), r.2)) (k1 : ∀ (h : hH) (l2 : Int), K (.inl (h, l2)) → Wq p l e R s m args below meth c D G A H0 true n0 M_X12_image x 0 0 18 [(0, (22, a0)), (1, (0, a1)), (2, (0, l2))] [] h) {r : (hH × Int) ⊕ (Int × hH)} (hr : fX12_image_s18 h0 a0 a1 (h, l2) = some r) (hk : K r) : Wq p l e R s m args below meth c D G A H0 true n0 M_X12_image x 0 0 18 [(0, (22, a0)), (1, (0, a1)), (2, (0, l2))] [] h := by
  unfold fX12_image_s18 at hr
  refine r_iload_n dX12_image_18 rfl 2 rfl (Or.inl rfl) ?_
  refine r_sipush dX12_image_19 (by decide) (by decide) ?_
  refine r_icmp_ge dX12_image_22 (tgt := 49) (by decide) (fun hc => ?_) (fun hc => ?_)
  · have hr := ifn hr hc
    refine r_iconst dX12_image_49 (by decide) ?_
    refine r_istore_n dX12_image_50 rfl (Or.inl rfl) (by decide) (lv' := [(2, (0, 0)), (0, (22, a0)), (1, (0, a1))]) rfl ?_
    refine r_sub [1, 2, 0] (lv' := [(0, (22, a0)), (1, (0, a1)), (2, (0, 0))]) rfl ?_
    obtain ⟨r9, hr9, rfl⟩ := mpp hr
    exact lp_ok (w := fun (q : hH × Int) => Wq p l e R s m args below meth c D G A H0 true n0 M_X12_image x 0 0 51 [(0, (22, a0)), (1, (0, a1)), (2, (0, q.2))] [] (q.1)) (K := fun z9 => K (.inr (z9))) (fun ⟨q0, q1⟩ r h1 h2 => oX12_image_s51 (K := Sum.elim (fun (q : hH × Int) => Wq p l e R s m args below meth c D G A H0 true n0 M_X12_image x 0 0 51 [(0, (22, a0)), (1, (0, a1)), (2, (0, q.2))] [] (q.1)) (fun z9 => K (.inr (z9)))) (fun r z => k0 r z) (fun _ _ z => z) h1 h2) hr9 hk
  · have hr := ifp hr hc
    refine r_aload_n dX12_image_25 rfl 0 rfl (nl rfl) ?_
    refine r_get 12 63 (o := a0) (w := (50, h a0 63)) (T := TX12) (ref := "FollowingRefsModel") rfl (by decide) rfl (by decide) inlX12 (wsl_8 _ (List.mem_of_getElem? (i := 13) rfl)) rfl dX12_image_26 rfl ?_
    refine r_sipush dX12_image_29 (by decide) (by decide) ?_
    refine r_iload_n dX12_image_32 rfl 1 rfl (Or.inl rfl) ?_
    refine r_imul dX12_image_33 ?_
    refine r_iload_n dX12_image_34 rfl 2 rfl (Or.inl rfl) ?_
    refine r_iadd dX12_image_35 ?_
    refine r_aload_n dX12_image_36 rfl 0 rfl (nl rfl) ?_
    refine r_get 12 6 (o := a0) (w := (50, h a0 6)) (T := TX12) (ref := "FollowingRefsModel") rfl (by decide) rfl (by decide) inlX12 (wsl_7 _ (List.mem_of_getElem? (i := 8) rfl)) rfl dX12_image_37 rfl ?_
    refine r_iload_n dX12_image_40 rfl 2 rfl (Or.inl rfl) ?_
    obtain ⟨v41, hg41, hr⟩ := bnd hr
    refine r_iald dX12_image_41 hg41 ?_
    obtain ⟨h42, hg42, hr⟩ := bnd hr
    refine r_iast dX12_image_42 hg42 ?_
    refine r_iinc (k := 2) (v := l2) dX12_image_43 rfl (by decide) (lv' := [(2, (0, w32 (l2 + 1))), (0, (22, a0)), (1, (0, a1))]) rfl ?_
    refine r_goto dX12_image_46 (tgt := 18) (by decide) ?_
    refine r_sub [1, 2, 0] (lv' := [(0, (22, a0)), (1, (0, a1)), (2, (0, w32 (l2 + 1)))]) rfl ?_
    obtain rfl := Option.some.inj hr
    exact k1 _ _ hk
set_option maxRecDepth 100000 in
set_option maxHeartbeats 4000000 in
theorem oX12_image_b0 {a0 a1 : Int} {K : Int × hH → Prop} (k0 : ∀ r, K (r) → x = (some (2, r.1), r.2)) {r : Int × hH} (hr : fX12_image h a0 a1 = some r) (hk : K r) : Wq p l e R s m args below meth c D G A H0 true n0 M_X12_image x 0 0 0 [(0, (22, a0)), (1, (0, a1))] [] h := by
  unfold fX12_image at hr
  refine r_aload_n dX12_image_0 rfl 0 rfl (nl rfl) ?_
  refine r_iconst dX12_image_1 (by decide) ?_
  obtain ⟨h2, hg2, hr⟩ := bnd hr
  refine r_put' 12 0 (t := 0) (ref := "FollowingRefsModel") hg2 rfl tyX12 tyX12_ok nmX12 rfl (by decide) rfl (by decide) inlX12 (wsl_10 _ (List.mem_of_getElem? (i := 11) rfl)) rfl rfl (by decide +kernel) (by decide) rfl (Or.inl ⟨rfl, rfl⟩) dX12_image_2 ?_
  refine r_iload_n dX12_image_5 rfl 1 rfl (Or.inl rfl) ?_
  refine r_iconst dX12_image_6 (by decide) ?_
  refine r_iconst dX12_image_7 (by decide) ?_
  obtain ⟨r8, hg8, hr⟩ := bnd hr
  refine k_S (as := [(0, a1), (0, 0), (0, 1)]) (rest := []) (X := (some (2, r8), h2)) (oX12_isIn hg8) gX12_isIn rfl (wsl_28 _ (List.mem_of_getElem? (i := 1) rfl)) rfl dX12_image_8 rfl ?_
  refine r_scast 0 (v := (2, r8)) (w := (0, r8)) rfl zc hTz (st' := [(0, r8)]) rfl ?_
  refine r_if_ne dX12_image_11 (tgt := 16) (by decide) (fun hc => ?_) (fun hc => ?_)
  · have hr := ifn hr hc
    refine r_iconst dX12_image_16 (by decide) ?_
    refine r_istore_n dX12_image_17 rfl (Or.inl rfl) (by decide) (lv' := [(2, (0, 0)), (0, (22, a0)), (1, (0, a1))]) rfl ?_
    refine r_sub [1, 2, 0] (lv' := [(0, (22, a0)), (1, (0, a1)), (2, (0, 0))]) rfl ?_
    exact lp_ok (w := fun (q : hH × Int) => Wq p l e R s m args below meth c D G A H0 true n0 M_X12_image x 0 0 18 [(0, (22, a0)), (1, (0, a1)), (2, (0, q.2))] [] (q.1)) (K := K) (fun ⟨q0, q1⟩ r z1 z2 => oX12_image_s18 (K := Sum.elim (fun (q : hH × Int) => Wq p l e R s m args below meth c D G A H0 true n0 M_X12_image x 0 0 18 [(0, (22, a0)), (1, (0, a1)), (2, (0, q.2))] [] (q.1)) (K)) (fun r z => k0 r z) (fun _ _ z => z) z1 z2) hr hk
  · have hr := ifp hr hc
    refine r_iconst dX12_image_14 (by decide) ?_
    refine r_scast 0 (v := (0, 0)) (w := (2, 0)) rfl cz (fun _ => Or.inl rfl) (st' := [(2, 0)]) rfl ?_
    obtain rfl := Option.some.inj hr
    exact r_ret dX12_image_15 rfl (Or.inr ⟨rfl, rfl⟩) (k0 _ hk) ⟨rfl, rfl⟩
end M_X12_image
theorem oX12_image {l : Launch} {D : va_G} {G : gG} {h : hH} {a0 a1 : Int} {r : Int × hH} (hr : fX12_image h a0 a1 = some r) : Ctr l D G true yX12_image M_X12_image [(22, a0), (0, a1)] h (some (2, r.1), r.2) :=
  Ctr_of (by decide) rfl (fun z => by cases z) (nl rfl) (fun {p e R s m args below meth c A H0} => by
    exact oX12_image_b0 (K := fun z9 => z9 = r) (fun r9 z => by rw [z]) hr rfl)
/-! X12_restore -/
theorem dX12_restore_0 : decode cX12_restore 0 = .ok (.aload_n 0, 1) := by decide +kernel
theorem dX12_restore_1 : decode cX12_restore 1 = .ok (.iconst 0, 1) := by decide +kernel
theorem dX12_restore_2 : decode cX12_restore 2 = .ok (.putfield 1, 3) := by decide +kernel
theorem dX12_restore_5 : decode cX12_restore 5 = .ok (.iload_n 1, 1) := by decide +kernel
theorem dX12_restore_6 : decode cX12_restore 6 = .ok (.iconst 0, 1) := by decide +kernel
theorem dX12_restore_7 : decode cX12_restore 7 = .ok (.iconst 1, 1) := by decide +kernel
theorem dX12_restore_8 : decode cX12_restore 8 = .ok (.invokestatic 229, 3) := by decide +kernel
theorem dX12_restore_11 : decode cX12_restore 11 = .ok (.ifCond .eq 12, 3) := by decide +kernel
theorem dX12_restore_14 : decode cX12_restore 14 = .ok (.aload_n 0, 1) := by decide +kernel
theorem dX12_restore_15 : decode cX12_restore 15 = .ok (.getfield 126, 3) := by decide +kernel
theorem dX12_restore_18 : decode cX12_restore 18 = .ok (.iload_n 1, 1) := by decide +kernel
theorem dX12_restore_19 : decode cX12_restore 19 = .ok (.baload, 1) := by decide +kernel
theorem dX12_restore_20 : decode cX12_restore 20 = .ok (.ifCond .ne 5, 3) := by decide +kernel
theorem dX12_restore_23 : decode cX12_restore 23 = .ok (.iconst 0, 1) := by decide +kernel
theorem dX12_restore_24 : decode cX12_restore 24 = .ok (.ireturn, 1) := by decide +kernel
theorem dX12_restore_25 : decode cX12_restore 25 = .ok (.iconst 0, 1) := by decide +kernel
theorem dX12_restore_26 : decode cX12_restore 26 = .ok (.istore_n 2, 1) := by decide +kernel
theorem dX12_restore_27 : decode cX12_restore 27 = .ok (.iload_n 2, 1) := by decide +kernel
theorem dX12_restore_28 : decode cX12_restore 28 = .ok (.sipush 1420, 3) := by decide +kernel
theorem dX12_restore_31 : decode cX12_restore 31 = .ok (.if_icmp .ge 27, 3) := by decide +kernel
theorem dX12_restore_34 : decode cX12_restore 34 = .ok (.aload_n 0, 1) := by decide +kernel
theorem dX12_restore_35 : decode cX12_restore 35 = .ok (.getfield 33, 3) := by decide +kernel
theorem dX12_restore_38 : decode cX12_restore 38 = .ok (.iload_n 2, 1) := by decide +kernel
theorem dX12_restore_39 : decode cX12_restore 39 = .ok (.aload_n 0, 1) := by decide +kernel
theorem dX12_restore_40 : decode cX12_restore 40 = .ok (.getfield 120, 3) := by decide +kernel
theorem dX12_restore_43 : decode cX12_restore 43 = .ok (.sipush 1420, 3) := by decide +kernel
theorem dX12_restore_46 : decode cX12_restore 46 = .ok (.iload_n 1, 1) := by decide +kernel
theorem dX12_restore_47 : decode cX12_restore 47 = .ok (.imul, 1) := by decide +kernel
theorem dX12_restore_48 : decode cX12_restore 48 = .ok (.iload_n 2, 1) := by decide +kernel
theorem dX12_restore_49 : decode cX12_restore 49 = .ok (.iadd, 1) := by decide +kernel
theorem dX12_restore_50 : decode cX12_restore 50 = .ok (.iaload, 1) := by decide +kernel
theorem dX12_restore_51 : decode cX12_restore 51 = .ok (.iastore, 1) := by decide +kernel
theorem dX12_restore_52 : decode cX12_restore 52 = .ok (.iinc 2 1, 3) := by decide +kernel
theorem dX12_restore_55 : decode cX12_restore 55 = .ok (.goto (-28), 3) := by decide +kernel
theorem dX12_restore_58 : decode cX12_restore 58 = .ok (.iconst 0, 1) := by decide +kernel
theorem dX12_restore_59 : decode cX12_restore 59 = .ok (.istore_n 2, 1) := by decide +kernel
theorem dX12_restore_60 : decode cX12_restore 60 = .ok (.iload_n 2, 1) := by decide +kernel
theorem dX12_restore_61 : decode cX12_restore 61 = .ok (.bipush 20, 2) := by decide +kernel
theorem dX12_restore_63 : decode cX12_restore 63 = .ok (.if_icmp .ge 26, 3) := by decide +kernel
theorem dX12_restore_66 : decode cX12_restore 66 = .ok (.aload_n 0, 1) := by decide +kernel
theorem dX12_restore_67 : decode cX12_restore 67 = .ok (.getfield 46, 3) := by decide +kernel
theorem dX12_restore_70 : decode cX12_restore 70 = .ok (.iload_n 2, 1) := by decide +kernel
theorem dX12_restore_71 : decode cX12_restore 71 = .ok (.aload_n 0, 1) := by decide +kernel
theorem dX12_restore_72 : decode cX12_restore 72 = .ok (.getfield 123, 3) := by decide +kernel
theorem dX12_restore_75 : decode cX12_restore 75 = .ok (.bipush 20, 2) := by decide +kernel
theorem dX12_restore_77 : decode cX12_restore 77 = .ok (.iload_n 1, 1) := by decide +kernel
theorem dX12_restore_78 : decode cX12_restore 78 = .ok (.imul, 1) := by decide +kernel
theorem dX12_restore_79 : decode cX12_restore 79 = .ok (.iload_n 2, 1) := by decide +kernel
theorem dX12_restore_80 : decode cX12_restore 80 = .ok (.iadd, 1) := by decide +kernel
theorem dX12_restore_81 : decode cX12_restore 81 = .ok (.laload, 1) := by decide +kernel
theorem dX12_restore_82 : decode cX12_restore 82 = .ok (.lastore, 1) := by decide +kernel
theorem dX12_restore_83 : decode cX12_restore 83 = .ok (.iinc 2 1, 3) := by decide +kernel
theorem dX12_restore_86 : decode cX12_restore 86 = .ok (.goto (-26), 3) := by decide +kernel
theorem dX12_restore_89 : decode cX12_restore 89 = .ok (.aload_n 0, 1) := by decide +kernel
theorem dX12_restore_90 : decode cX12_restore 90 = .ok (.iconst 0, 1) := by decide +kernel
theorem dX12_restore_91 : decode cX12_restore 91 = .ok (.putfield 314, 3) := by decide +kernel
theorem dX12_restore_94 : decode cX12_restore 94 = .ok (.iconst 1, 1) := by decide +kernel
theorem dX12_restore_95 : decode cX12_restore 95 = .ok (.ireturn, 1) := by decide +kernel
abbrev M_X12_restore : mM := (cX12_restore, 3, RX12, some .boolean, false, 1, 22, 0, 0)
theorem gX12_restore : cI yX12_restore M_X12_restore 1 := ⟨(wsl_73 _ (List.mem_of_getElem? (i := 4) rfl)), (wsl_73 _ (List.mem_of_getElem? (i := 5) rfl)), (wsl_1 _ (List.mem_of_getElem? (i := 5) rfl)), (wsl_73 _ (List.mem_of_getElem? (i := 6) rfl)), by decide +kernel⟩
noncomputable def fX12_restore_s60 (h0 : hH) (a0 a1 : Int) : hH × Int → Option ((hH × Int) ⊕ (Int × hH)) := fun (h, l2) =>
  if l2 < 20 then
    (aget h (h a0 64) (w32 ((w32 (20 * a1)) + l2))).bind fun v81 =>
    (aput h (h a0 10) l2 v81).bind fun h82 =>
    some (.inl (h82, w32 (l2 + 1)))
  else
    (pput h a0 44 0).bind fun h91 =>
    some (.inr ((1, h91)))
noncomputable def fX12_restore_s27 (h0 : hH) (a0 a1 : Int) : hH × Int → Option ((hH × Int) ⊕ (Int × hH)) := fun (h, l2) =>
  if l2 < 1420 then
    (aget h (h a0 63) (w32 ((w32 (1420 * a1)) + l2))).bind fun v50 =>
    (aput h (h a0 6) l2 v50).bind fun h51 =>
    some (.inl (h51, w32 (l2 + 1)))
  else
    (lpO (fX12_restore_s60 h a0 a1) (h, 0)).map (fun z9 => .inr (z9))
noncomputable def fX12_restore (h : hH) (a0 a1 : Int) : Option (Int × hH) :=
  (pput h a0 0 0).bind fun h2 =>
  (fX12_isIn h2 a1 0 1).bind fun r8 =>
  if r8 = 0 then
    some (0, h2)
  else
    (aget h2 (h2 a0 65) a1).bind fun v19 =>
    if v19 = 0 then
      some (0, h2)
    else
      lpO (fX12_restore_s27 h2 a0 a1) (h2, 0)
section M_X12_restore
variable {p : Program} {l : Launch} {e : Env} {R : Room} {s : State} {m : MethodId} {args : Array Value} {below : List Frame} {meth : Method} {c : Code} {D : va_G} {G : gG} {A : Nat → Prop} {H0 : Heap} {n0 : Int} {x : Option vV × hH} {h : hH}
set_option maxRecDepth 100000 in
set_option maxHeartbeats 4000000 in
theorem oX12_restore_s60 {h0 : hH} {a0 a1 l2 : Int} {K : (hH × Int) ⊕ (Int × hH) → Prop} (k0 : ∀ r, K (.inr (r)) → x = (some (2, r.1), r.2)) (k1 : ∀ (h : hH) (l2 : Int), K (.inl (h, l2)) → Wq p l e R s m args below meth c D G A H0 true n0 M_X12_restore x 0 0 60 [(0, (22, a0)), (1, (0, a1)), (2, (0, l2))] [] h) {r : (hH × Int) ⊕ (Int × hH)} (hr : fX12_restore_s60 h0 a0 a1 (h, l2) = some r) (hk : K r) : Wq p l e R s m args below meth c D G A H0 true n0 M_X12_restore x 0 0 60 [(0, (22, a0)), (1, (0, a1)), (2, (0, l2))] [] h := by
  unfold fX12_restore_s60 at hr
  refine r_iload_n dX12_restore_60 rfl 2 rfl (Or.inl rfl) ?_
  refine r_bipush dX12_restore_61 (by decide) (by decide) ?_
  refine r_icmp_ge dX12_restore_63 (tgt := 89) (by decide) (fun hc => ?_) (fun hc => ?_)
  · have hr := ifn hr hc
    refine r_aload_n dX12_restore_89 rfl 0 rfl (nl rfl) ?_
    refine r_iconst dX12_restore_90 (by decide) ?_
    obtain ⟨h91, hg91, hr⟩ := bnd hr
    refine r_put' 12 44 (t := 0) (ref := "FollowingRefsModel") hg91 rfl tyX12 tyX12_ok nmX12 rfl (by decide) rfl (by decide) inlX12 (wsl_23 _ (List.mem_of_getElem? (i := 16) rfl)) rfl rfl (by decide +kernel) (by decide) rfl (Or.inl ⟨rfl, rfl⟩) dX12_restore_91 ?_
    refine r_iconst dX12_restore_94 (by decide) ?_
    refine r_scast 0 (v := (0, 1)) (w := (2, 1)) rfl cz (fun _ => Or.inr rfl) (st' := [(2, 1)]) rfl ?_
    obtain rfl := Option.some.inj hr
    exact r_ret dX12_restore_95 rfl (Or.inr ⟨rfl, rfl⟩) (k0 _ hk) ⟨rfl, rfl⟩
  · have hr := ifp hr hc
    refine r_aload_n dX12_restore_66 rfl 0 rfl (nl rfl) ?_
    refine r_get 12 10 (o := a0) (w := (51, h a0 10)) (T := TX12) (ref := "FollowingRefsModel") rfl (by decide) rfl (by decide) inlX12 (wsl_7 _ (List.mem_of_getElem? (i := 12) rfl)) rfl dX12_restore_67 rfl ?_
    refine r_iload_n dX12_restore_70 rfl 2 rfl (Or.inl rfl) ?_
    refine r_aload_n dX12_restore_71 rfl 0 rfl (nl rfl) ?_
    refine r_get 12 64 (o := a0) (w := (51, h a0 64)) (T := TX12) (ref := "FollowingRefsModel") rfl (by decide) rfl (by decide) inlX12 (wsl_8 _ (List.mem_of_getElem? (i := 14) rfl)) rfl dX12_restore_72 rfl ?_
    refine r_bipush dX12_restore_75 (by decide) (by decide) ?_
    refine r_iload_n dX12_restore_77 rfl 1 rfl (Or.inl rfl) ?_
    refine r_imul dX12_restore_78 ?_
    refine r_iload_n dX12_restore_79 rfl 2 rfl (Or.inl rfl) ?_
    refine r_iadd dX12_restore_80 ?_
    obtain ⟨v81, hg81, hr⟩ := bnd hr
    refine r_lald dX12_restore_81 hg81 ?_
    obtain ⟨h82, hg82, hr⟩ := bnd hr
    refine r_last dX12_restore_82 hg82 ?_
    refine r_iinc (k := 2) (v := l2) dX12_restore_83 rfl (by decide) (lv' := [(2, (0, w32 (l2 + 1))), (0, (22, a0)), (1, (0, a1))]) rfl ?_
    refine r_goto dX12_restore_86 (tgt := 60) (by decide) ?_
    refine r_sub [1, 2, 0] (lv' := [(0, (22, a0)), (1, (0, a1)), (2, (0, w32 (l2 + 1)))]) rfl ?_
    obtain rfl := Option.some.inj hr
    exact k1 _ _ hk
set_option maxRecDepth 100000 in
set_option maxHeartbeats 4000000 in
theorem oX12_restore_s27 {h0 : hH} {a0 a1 l2 : Int} {K : (hH × Int) ⊕ (Int × hH) → Prop} (k0 : ∀ r, K (.inr (r)) → x = (some (2, r.1), r.2)) (k1 : ∀ (h : hH) (l2 : Int), K (.inl (h, l2)) → Wq p l e R s m args below meth c D G A H0 true n0 M_X12_restore x 0 0 27 [(0, (22, a0)), (1, (0, a1)), (2, (0, l2))] [] h) {r : (hH × Int) ⊕ (Int × hH)} (hr : fX12_restore_s27 h0 a0 a1 (h, l2) = some r) (hk : K r) : Wq p l e R s m args below meth c D G A H0 true n0 M_X12_restore x 0 0 27 [(0, (22, a0)), (1, (0, a1)), (2, (0, l2))] [] h := by
  unfold fX12_restore_s27 at hr
  refine r_iload_n dX12_restore_27 rfl 2 rfl (Or.inl rfl) ?_
  refine r_sipush dX12_restore_28 (by decide) (by decide) ?_
  refine r_icmp_ge dX12_restore_31 (tgt := 58) (by decide) (fun hc => ?_) (fun hc => ?_)
  · have hr := ifn hr hc
    refine r_iconst dX12_restore_58 (by decide) ?_
    refine r_istore_n dX12_restore_59 rfl (Or.inl rfl) (by decide) (lv' := [(2, (0, 0)), (0, (22, a0)), (1, (0, a1))]) rfl ?_
    refine r_sub [1, 2, 0] (lv' := [(0, (22, a0)), (1, (0, a1)), (2, (0, 0))]) rfl ?_
    obtain ⟨r9, hr9, rfl⟩ := mpp hr
    exact lp_ok (w := fun (q : hH × Int) => Wq p l e R s m args below meth c D G A H0 true n0 M_X12_restore x 0 0 60 [(0, (22, a0)), (1, (0, a1)), (2, (0, q.2))] [] (q.1)) (K := fun z9 => K (.inr (z9))) (fun ⟨q0, q1⟩ r h1 h2 => oX12_restore_s60 (K := Sum.elim (fun (q : hH × Int) => Wq p l e R s m args below meth c D G A H0 true n0 M_X12_restore x 0 0 60 [(0, (22, a0)), (1, (0, a1)), (2, (0, q.2))] [] (q.1)) (fun z9 => K (.inr (z9)))) (fun r z => k0 r z) (fun _ _ z => z) h1 h2) hr9 hk
  · have hr := ifp hr hc
    refine r_aload_n dX12_restore_34 rfl 0 rfl (nl rfl) ?_
    refine r_get 12 6 (o := a0) (w := (50, h a0 6)) (T := TX12) (ref := "FollowingRefsModel") rfl (by decide) rfl (by decide) inlX12 (wsl_7 _ (List.mem_of_getElem? (i := 8) rfl)) rfl dX12_restore_35 rfl ?_
    refine r_iload_n dX12_restore_38 rfl 2 rfl (Or.inl rfl) ?_
    refine r_aload_n dX12_restore_39 rfl 0 rfl (nl rfl) ?_
    refine r_get 12 63 (o := a0) (w := (50, h a0 63)) (T := TX12) (ref := "FollowingRefsModel") rfl (by decide) rfl (by decide) inlX12 (wsl_8 _ (List.mem_of_getElem? (i := 13) rfl)) rfl dX12_restore_40 rfl ?_
    refine r_sipush dX12_restore_43 (by decide) (by decide) ?_
    refine r_iload_n dX12_restore_46 rfl 1 rfl (Or.inl rfl) ?_
    refine r_imul dX12_restore_47 ?_
    refine r_iload_n dX12_restore_48 rfl 2 rfl (Or.inl rfl) ?_
    refine r_iadd dX12_restore_49 ?_
    obtain ⟨v50, hg50, hr⟩ := bnd hr
    refine r_iald dX12_restore_50 hg50 ?_
    obtain ⟨h51, hg51, hr⟩ := bnd hr
    refine r_iast dX12_restore_51 hg51 ?_
    refine r_iinc (k := 2) (v := l2) dX12_restore_52 rfl (by decide) (lv' := [(2, (0, w32 (l2 + 1))), (0, (22, a0)), (1, (0, a1))]) rfl ?_
    refine r_goto dX12_restore_55 (tgt := 27) (by decide) ?_
    refine r_sub [1, 2, 0] (lv' := [(0, (22, a0)), (1, (0, a1)), (2, (0, w32 (l2 + 1)))]) rfl ?_
    obtain rfl := Option.some.inj hr
    exact k1 _ _ hk
set_option maxRecDepth 100000 in
set_option maxHeartbeats 4000000 in
theorem oX12_restore_b0 {a0 a1 : Int} {K : Int × hH → Prop} (k0 : ∀ r, K (r) → x = (some (2, r.1), r.2)) {r : Int × hH} (hr : fX12_restore h a0 a1 = some r) (hk : K r) : Wq p l e R s m args below meth c D G A H0 true n0 M_X12_restore x 0 0 0 [(0, (22, a0)), (1, (0, a1))] [] h := by
  unfold fX12_restore at hr
  refine r_aload_n dX12_restore_0 rfl 0 rfl (nl rfl) ?_
  refine r_iconst dX12_restore_1 (by decide) ?_
  obtain ⟨h2, hg2, hr⟩ := bnd hr
  refine r_put' 12 0 (t := 0) (ref := "FollowingRefsModel") hg2 rfl tyX12 tyX12_ok nmX12 rfl (by decide) rfl (by decide) inlX12 (wsl_10 _ (List.mem_of_getElem? (i := 11) rfl)) rfl rfl (by decide +kernel) (by decide) rfl (Or.inl ⟨rfl, rfl⟩) dX12_restore_2 ?_
  refine r_iload_n dX12_restore_5 rfl 1 rfl (Or.inl rfl) ?_
  refine r_iconst dX12_restore_6 (by decide) ?_
  refine r_iconst dX12_restore_7 (by decide) ?_
  obtain ⟨r8, hg8, hr⟩ := bnd hr
  refine k_S (as := [(0, a1), (0, 0), (0, 1)]) (rest := []) (X := (some (2, r8), h2)) (oX12_isIn hg8) gX12_isIn rfl (wsl_28 _ (List.mem_of_getElem? (i := 1) rfl)) rfl dX12_restore_8 rfl ?_
  refine r_scast 0 (v := (2, r8)) (w := (0, r8)) rfl zc hTz (st' := [(0, r8)]) rfl ?_
  refine r_if_eq dX12_restore_11 (tgt := 23) (by decide) (fun hc => ?_) (fun hc => ?_)
  · have hr := ifp hr hc
    refine r_iconst dX12_restore_23 (by decide) ?_
    refine r_scast 0 (v := (0, 0)) (w := (2, 0)) rfl cz (fun _ => Or.inl rfl) (st' := [(2, 0)]) rfl ?_
    obtain rfl := Option.some.inj hr
    exact r_ret dX12_restore_24 rfl (Or.inr ⟨rfl, rfl⟩) (k0 _ hk) ⟨rfl, rfl⟩
  · have hr := ifn hr hc
    refine r_aload_n dX12_restore_14 rfl 0 rfl (nl rfl) ?_
    refine r_get 12 65 (o := a0) (w := (53, h2 a0 65)) (T := TX12) (ref := "FollowingRefsModel") rfl (by decide) rfl (by decide) inlX12 (wsl_8 _ (List.mem_of_getElem? (i := 15) rfl)) rfl dX12_restore_15 rfl ?_
    refine r_iload_n dX12_restore_18 rfl 1 rfl (Or.inl rfl) ?_
    obtain ⟨v19, hg19, hr⟩ := bnd hr
    refine r_zald dX12_restore_19 hg19 ?_
    refine r_scast 0 (v := (2, v19)) (w := (0, v19)) rfl zc hTz (st' := [(0, v19)]) rfl ?_
    refine r_if_ne dX12_restore_20 (tgt := 25) (by decide) (fun hc => ?_) (fun hc => ?_)
    · have hr := ifn hr hc
      refine r_iconst dX12_restore_25 (by decide) ?_
      refine r_istore_n dX12_restore_26 rfl (Or.inl rfl) (by decide) (lv' := [(2, (0, 0)), (0, (22, a0)), (1, (0, a1))]) rfl ?_
      refine r_sub [1, 2, 0] (lv' := [(0, (22, a0)), (1, (0, a1)), (2, (0, 0))]) rfl ?_
      exact lp_ok (w := fun (q : hH × Int) => Wq p l e R s m args below meth c D G A H0 true n0 M_X12_restore x 0 0 27 [(0, (22, a0)), (1, (0, a1)), (2, (0, q.2))] [] (q.1)) (K := K) (fun ⟨q0, q1⟩ r z1 z2 => oX12_restore_s27 (K := Sum.elim (fun (q : hH × Int) => Wq p l e R s m args below meth c D G A H0 true n0 M_X12_restore x 0 0 27 [(0, (22, a0)), (1, (0, a1)), (2, (0, q.2))] [] (q.1)) (K)) (fun r z => k0 r z) (fun _ _ z => z) z1 z2) hr hk
    · have hr := ifp hr hc
      refine r_iconst dX12_restore_23 (by decide) ?_
      refine r_scast 0 (v := (0, 0)) (w := (2, 0)) rfl cz (fun _ => Or.inl rfl) (st' := [(2, 0)]) rfl ?_
      obtain rfl := Option.some.inj hr
      exact r_ret dX12_restore_24 rfl (Or.inr ⟨rfl, rfl⟩) (k0 _ hk) ⟨rfl, rfl⟩
end M_X12_restore
theorem oX12_restore {l : Launch} {D : va_G} {G : gG} {h : hH} {a0 a1 : Int} {r : Int × hH} (hr : fX12_restore h a0 a1 = some r) : Ctr l D G true yX12_restore M_X12_restore [(22, a0), (0, a1)] h (some (2, r.1), r.2) :=
  Ctr_of (by decide) rfl (fun z => by cases z) (nl rfl) (fun {p e R s m args below meth c A H0} => by
    exact oX12_restore_b0 (K := fun z9 => z9 = r) (fun r9 z => by rw [z]) hr rfl)
/-! X12_count -/
theorem dX12_count_0 : decode cX12_count 0 = .ok (.aload_n 0, 1) := by decide +kernel
theorem dX12_count_1 : decode cX12_count 1 = .ok (.iconst 0, 1) := by decide +kernel
theorem dX12_count_2 : decode cX12_count 2 = .ok (.putfield 1, 3) := by decide +kernel
theorem dX12_count_5 : decode cX12_count 5 = .ok (.iload_n 1, 1) := by decide +kernel
theorem dX12_count_6 : decode cX12_count 6 = .ok (.iconst 4, 1) := by decide +kernel
theorem dX12_count_7 : decode cX12_count 7 = .ok (.if_icmp .ne 10, 3) := by decide +kernel
theorem dX12_count_10 : decode cX12_count 10 = .ok (.aload_n 0, 1) := by decide +kernel
theorem dX12_count_11 : decode cX12_count 11 = .ok (.getfield 7, 3) := by decide +kernel
theorem dX12_count_14 : decode cX12_count 14 = .ok (.goto 22, 3) := by decide +kernel
theorem dX12_count_17 : decode cX12_count 17 = .ok (.iload_n 1, 1) := by decide +kernel
theorem dX12_count_18 : decode cX12_count 18 = .ok (.iconst 0, 1) := by decide +kernel
theorem dX12_count_19 : decode cX12_count 19 = .ok (.iconst 3, 1) := by decide +kernel
theorem dX12_count_20 : decode cX12_count 20 = .ok (.invokestatic 229, 3) := by decide +kernel
theorem dX12_count_23 : decode cX12_count 23 = .ok (.ifCond .eq 12, 3) := by decide +kernel
theorem dX12_count_26 : decode cX12_count 26 = .ok (.aload_n 0, 1) := by decide +kernel
theorem dX12_count_27 : decode cX12_count 27 = .ok (.getfield 33, 3) := by decide +kernel
theorem dX12_count_30 : decode cX12_count 30 = .ok (.iload_n 1, 1) := by decide +kernel
theorem dX12_count_31 : decode cX12_count 31 = .ok (.iaload, 1) := by decide +kernel
theorem dX12_count_32 : decode cX12_count 32 = .ok (.goto 4, 3) := by decide +kernel
theorem dX12_count_35 : decode cX12_count 35 = .ok (.iconst (-1), 1) := by decide +kernel
theorem dX12_count_36 : decode cX12_count 36 = .ok (.ireturn, 1) := by decide +kernel
abbrev M_X12_count : mM := (cX12_count, 2, RX12, some .int, false, 1, 22, 0, 0)
theorem gX12_count : cI yX12_count M_X12_count 1 := ⟨(wsl_73 _ (List.mem_of_getElem? (i := 14) rfl)), (wsl_73 _ (List.mem_of_getElem? (i := 15) rfl)), (wsl_1 _ (List.mem_of_getElem? (i := 5) rfl)), (wsl_73 _ (List.mem_of_getElem? (i := 16) rfl)), by decide +kernel⟩
noncomputable def fX12_count (h : hH) (a0 a1 : Int) : Option (Int × hH) :=
  (pput h a0 0 0).bind fun h2 =>
  if a1 = 4 then
    some (h2 a0 2, h2)
  else
    (fX12_isIn h2 a1 0 3).bind fun r20 =>
    if r20 = 0 then
      some (-1, h2)
    else
      (aget h2 (h2 a0 6) a1).bind fun v31 =>
      some (v31, h2)
section M_X12_count
variable {p : Program} {l : Launch} {e : Env} {R : Room} {s : State} {m : MethodId} {args : Array Value} {below : List Frame} {meth : Method} {c : Code} {D : va_G} {G : gG} {A : Nat → Prop} {H0 : Heap} {n0 : Int} {x : Option vV × hH} {h : hH}
set_option maxRecDepth 100000 in
set_option maxHeartbeats 4000000 in
theorem oX12_count_b0 {a0 a1 : Int} {K : Int × hH → Prop} (k0 : ∀ r, K (r) → x = (some (0, r.1), r.2)) {r : Int × hH} (hr : fX12_count h a0 a1 = some r) (hk : K r) : Wq p l e R s m args below meth c D G A H0 true n0 M_X12_count x 0 0 0 [(0, (22, a0)), (1, (0, a1))] [] h := by
  unfold fX12_count at hr
  refine r_aload_n dX12_count_0 rfl 0 rfl (nl rfl) ?_
  refine r_iconst dX12_count_1 (by decide) ?_
  obtain ⟨h2, hg2, hr⟩ := bnd hr
  refine r_put' 12 0 (t := 0) (ref := "FollowingRefsModel") hg2 rfl tyX12 tyX12_ok nmX12 rfl (by decide) rfl (by decide) inlX12 (wsl_10 _ (List.mem_of_getElem? (i := 11) rfl)) rfl rfl (by decide +kernel) (by decide) rfl (Or.inl ⟨rfl, rfl⟩) dX12_count_2 ?_
  refine r_iload_n dX12_count_5 rfl 1 rfl (Or.inl rfl) ?_
  refine r_iconst dX12_count_6 (by decide) ?_
  refine r_icmp_ne dX12_count_7 (tgt := 17) (by decide) (fun hc => ?_) (fun hc => ?_)
  · have hr := ifn hr hc
    refine r_iload_n dX12_count_17 rfl 1 rfl (Or.inl rfl) ?_
    refine r_iconst dX12_count_18 (by decide) ?_
    refine r_iconst dX12_count_19 (by decide) ?_
    obtain ⟨r20, hg20, hr⟩ := bnd hr
    refine k_S (as := [(0, a1), (0, 0), (0, 3)]) (rest := []) (X := (some (2, r20), h2)) (oX12_isIn hg20) gX12_isIn rfl (wsl_28 _ (List.mem_of_getElem? (i := 1) rfl)) rfl dX12_count_20 rfl ?_
    refine r_scast 0 (v := (2, r20)) (w := (0, r20)) rfl zc hTz (st' := [(0, r20)]) rfl ?_
    refine r_if_eq dX12_count_23 (tgt := 35) (by decide) (fun hc => ?_) (fun hc => ?_)
    · have hr := ifp hr hc
      refine r_iconst dX12_count_35 (by decide) ?_
      obtain rfl := Option.some.inj hr
      exact r_ret dX12_count_36 rfl (Or.inl ⟨rfl, rfl⟩) (k0 _ hk) ⟨rfl, rfl⟩
    · have hr := ifn hr hc
      refine r_aload_n dX12_count_26 rfl 0 rfl (nl rfl) ?_
      refine r_get 12 6 (o := a0) (w := (50, h2 a0 6)) (T := TX12) (ref := "FollowingRefsModel") rfl (by decide) rfl (by decide) inlX12 (wsl_7 _ (List.mem_of_getElem? (i := 8) rfl)) rfl dX12_count_27 rfl ?_
      refine r_iload_n dX12_count_30 rfl 1 rfl (Or.inl rfl) ?_
      obtain ⟨v31, hg31, hr⟩ := bnd hr
      refine r_iald dX12_count_31 hg31 ?_
      refine r_goto dX12_count_32 (tgt := 36) (by decide) ?_
      obtain rfl := Option.some.inj hr
      exact r_ret dX12_count_36 rfl (Or.inl ⟨rfl, rfl⟩) (k0 _ hk) ⟨rfl, rfl⟩
  · have hr := ifp hr hc
    refine r_aload_n dX12_count_10 rfl 0 rfl (nl rfl) ?_
    refine r_get 12 2 (o := a0) (w := (0, h2 a0 2)) (T := TX12) (ref := "FollowingRefsModel") rfl (by decide) rfl (by decide) inlX12 (wsl_10 _ (List.mem_of_getElem? (i := 12) rfl)) rfl dX12_count_11 rfl ?_
    refine r_goto dX12_count_14 (tgt := 36) (by decide) ?_
    obtain rfl := Option.some.inj hr
    exact r_ret dX12_count_36 rfl (Or.inl ⟨rfl, rfl⟩) (k0 _ hk) ⟨rfl, rfl⟩
end M_X12_count
theorem oX12_count {l : Launch} {D : va_G} {G : gG} {h : hH} {a0 a1 : Int} {r : Int × hH} (hr : fX12_count h a0 a1 = some r) : Ctr l D G true yX12_count M_X12_count [(22, a0), (0, a1)] h (some (0, r.1), r.2) :=
  Ctr_of (by decide) rfl (fun z => by cases z) (nl rfl) (fun {p e R s m args below meth c A H0} => by
    exact oX12_count_b0 (K := fun z9 => z9 = r) (fun r9 z => by rw [z]) hr rfl)
