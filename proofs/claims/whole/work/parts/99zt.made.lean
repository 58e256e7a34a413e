/-! THE MADE HEAP -/
theorem bnd_in {α β : Type} {m : Option α} {f : α → Option β} {a : α} {x : Option β} (h : m = some a) (k : f a = x) : m.bind f = x := by
  rw [h]
  exact k
theorem ite_out {α : Type} {c : Prop} [Decidable c] {a : Option α} {r : α} (h : (if c then a else none) = some r) : c ∧ a = some r := by
  by_cases hc : c
  · rw [if_pos hc] at h
    exact ⟨hc, h⟩
  · rw [if_neg hc] at h
    cases h
theorem ite_out2 {α : Type} {c : Prop} [Decidable c] {a : Option α} {r : α} (h : (if c then none else a) = some r) : ¬ c ∧ a = some r := by
  by_cases hc : c
  · rw [if_pos hc] at h
    cases h
  · rw [if_neg hc] at h
    exact ⟨hc, h⟩
theorem ite_in {α : Type} {c : Prop} [Decidable c] {a : Option α} {x : Option α} (hc : c) (h : a = x) : (if c then a else none) = x := by
  rw [if_pos hc]
  exact h
theorem ite_in2 {α : Type} {c : Prop} [Decidable c] {a : Option α} {x : Option α} (hc : ¬ c) (h : a = x) : (if c then none else a) = x := by
  rw [if_neg hc]
  exact h
noncomputable def fX11_ini2 (n : Int) (h : hH) (a0 : Int) : Option hH :=
  (alc h (n) 19 0).bind fun h5_4 =>
  (fX9_init (n + 1) h5_4 n).bind fun h9_6 =>
  (pput h9_6 a0 0 n).bind fun h12_7 =>
  (alc h12_7 (n + 3) 14 0).bind fun h16_9 =>
  (fX4_init (n + 4) h16_9 (n + 3)).bind fun h20_11 =>
  (pput h20_11 a0 1 (n + 3)).bind fun h23_12 =>
  (alc h23_12 (n + 12) 18 0).bind fun h27_14 =>
  (fX8_init (n + 13) h27_14 (n + 12)).bind fun h31_16 =>
  (pput h31_16 a0 2 (n + 12)).bind fun h34_17 =>
  (alc h34_17 (n + 21) 16 0).bind fun h38_19 =>
  (fX6_init (n + 22) h38_19 (n + 21)).bind fun h42_21 =>
  (pput h42_21 a0 3 (n + 21)).bind fun h45_22 =>
  (alc h45_22 (n + 23) 15 0).bind fun h49_24 =>
  (nng (h49_24 a0 0)).bind fun _ =>
  (fX5_init (n + 24) h49_24 (n + 23) (h49_24 a0 0)).bind fun h57_28 =>
  (pput h57_28 a0 4 (n + 23)).bind fun h60_29 =>
  (alc h60_29 (n + 33) 17 0).bind fun h64_31 =>
  (nng (h64_31 a0 0)).bind fun _ =>
  (nng (h64_31 a0 1)).bind fun _ =>
  (fX7_init (n + 34) h64_31 (n + 33) (h64_31 a0 0) (h64_31 a0 1)).bind fun h76_37 =>
  (pput h76_37 a0 5 (n + 33)).bind fun h79_38 =>
  (alc h79_38 (n + 36) 12 0).bind fun h83_40 =>
  (nng (h83_40 a0 0)).bind fun _ =>
  (nng (h83_40 a0 1)).bind fun _ =>
  (fX2_init (n + 37) h83_40 (n + 36) (h83_40 a0 0) (h83_40 a0 1)).bind fun h95_46 =>
  (pput h95_46 a0 6 (n + 36)).bind fun h98_47 =>
  (alc h98_47 (n + 38) 11 0).bind fun h102_49 =>
  (nng (h102_49 a0 1)).bind fun _ =>
  (nng (h102_49 a0 2)).bind fun _ =>
  (fX1_init (n + 39) h102_49 (n + 38) (h102_49 a0 1) (h102_49 a0 2)).bind fun h114_55 =>
  (pput h114_55 a0 7 (n + 38)).bind fun h117_56 =>
  (alc h117_56 (n + 51) 11 0).bind fun h121_58 =>
  (nng (h121_58 a0 1)).bind fun _ =>
  (nng (h121_58 a0 2)).bind fun _ =>
  (fX1_init (n + 52) h121_58 (n + 51) (h121_58 a0 1) (h121_58 a0 2)).bind fun h133_64 =>
  (pput h133_64 a0 8 (n + 51)).bind fun h136_65 =>
  (alc h136_65 (n + 64) 18 0).bind fun h140_67 =>
  (fX8_init (n + 65) h140_67 (n + 64)).bind fun h144_69 =>
  (pput h144_69 a0 9 (n + 64)).bind fun h147_70 =>
  (alc h147_70 (n + 73) 54 8).bind fun h153_73 =>
  (pput h153_73 a0 10 (n + 73)).bind fun h156_74 =>
  (alc h156_74 (n + 74) 55 2).bind fun h161_77 =>
  (pput h161_77 a0 12 (n + 74)).bind fun h164_78 =>
  (alc h164_78 (n + 75) 50 4).bind fun h169_81 =>
  (pput h169_81 a0 13 (n + 75)).bind fun h171_82 =>
  (alc h171_82 (n + 76) 52 24).bind fun h177_85 =>
  (pput h177_85 a0 14 (n + 76)).bind fun h179_86 =>
  (nng (h179_86 a0 10)).bind fun _ =>
  if 0 < h179_86 (h179_86 a0 10) (-1) then
  (nng (h179_86 a0 10)).bind fun _ =>
  (alc h179_86 (n + 77) 18 0).bind fun h198_97 =>
  (fX8_init (n + 78) h198_97 (n + 77)).bind fun h202_99 =>
  (nng (n + 77)).bind fun _ =>
  (aput h202_99 (h179_86 a0 10) 0 (n + 77)).bind fun h205_100 =>
  (nng (h205_100 a0 10)).bind fun _ =>
  if w32 (0 + 1) < h205_100 (h205_100 a0 10) (-1) then
  (nng (h205_100 a0 10)).bind fun _ =>
  (alc h205_100 (n + 86) 18 0).bind fun h198_111 =>
  (fX8_init (n + 87) h198_111 (n + 86)).bind fun h202_113 =>
  (nng (n + 86)).bind fun _ =>
  (aput h202_113 (h205_100 a0 10) (w32 (0 + 1)) (n + 86)).bind fun h205_114 =>
  (nng (h205_114 a0 10)).bind fun _ =>
  if w32 (w32 (0 + 1) + 1) < h205_114 (h205_114 a0 10) (-1) then
  (nng (h205_114 a0 10)).bind fun _ =>
  (alc h205_114 (n + 95) 18 0).bind fun h198_125 =>
  (fX8_init (n + 96) h198_125 (n + 95)).bind fun h202_127 =>
  (nng (n + 95)).bind fun _ =>
  (aput h202_127 (h205_114 a0 10) (w32 (w32 (0 + 1) + 1)) (n + 95)).bind fun h205_128 =>
  (nng (h205_128 a0 10)).bind fun _ =>
  if w32 (w32 (w32 (0 + 1) + 1) + 1) < h205_128 (h205_128 a0 10) (-1) then
  (nng (h205_128 a0 10)).bind fun _ =>
  (alc h205_128 (n + 104) 18 0).bind fun h198_139 =>
  (fX8_init (n + 105) h198_139 (n + 104)).bind fun h202_141 =>
  (nng (n + 104)).bind fun _ =>
  (aput h202_141 (h205_128 a0 10) (w32 (w32 (w32 (0 + 1) + 1) + 1)) (n + 104)).bind fun h205_142 =>
  (nng (h205_142 a0 10)).bind fun _ =>
  if w32 (w32 (w32 (w32 (0 + 1) + 1) + 1) + 1) < h205_142 (h205_142 a0 10) (-1) then
  (nng (h205_142 a0 10)).bind fun _ =>
  (alc h205_142 (n + 113) 18 0).bind fun h198_153 =>
  (fX8_init (n + 114) h198_153 (n + 113)).bind fun h202_155 =>
  (nng (n + 113)).bind fun _ =>
  (aput h202_155 (h205_142 a0 10) (w32 (w32 (w32 (w32 (0 + 1) + 1) + 1) + 1)) (n + 113)).bind fun h205_156 =>
  (nng (h205_156 a0 10)).bind fun _ =>
  if w32 (w32 (w32 (w32 (w32 (0 + 1) + 1) + 1) + 1) + 1) < h205_156 (h205_156 a0 10) (-1) then
  (nng (h205_156 a0 10)).bind fun _ =>
  (alc h205_156 (n + 122) 18 0).bind fun h198_167 =>
  (fX8_init (n + 123) h198_167 (n + 122)).bind fun h202_169 =>
  (nng (n + 122)).bind fun _ =>
  (aput h202_169 (h205_156 a0 10) (w32 (w32 (w32 (w32 (w32 (0 + 1) + 1) + 1) + 1) + 1)) (n + 122)).bind fun h205_170 =>
  (nng (h205_170 a0 10)).bind fun _ =>
  if w32 (w32 (w32 (w32 (w32 (w32 (0 + 1) + 1) + 1) + 1) + 1) + 1) < h205_170 (h205_170 a0 10) (-1) then
  (nng (h205_170 a0 10)).bind fun _ =>
  (alc h205_170 (n + 131) 18 0).bind fun h198_181 =>
  (fX8_init (n + 132) h198_181 (n + 131)).bind fun h202_183 =>
  (nng (n + 131)).bind fun _ =>
  (aput h202_183 (h205_170 a0 10) (w32 (w32 (w32 (w32 (w32 (w32 (0 + 1) + 1) + 1) + 1) + 1) + 1)) (n + 131)).bind fun h205_184 =>
  (nng (h205_184 a0 10)).bind fun _ =>
  if w32 (w32 (w32 (w32 (w32 (w32 (w32 (0 + 1) + 1) + 1) + 1) + 1) + 1) + 1) < h205_184 (h205_184 a0 10) (-1) then
  (nng (h205_184 a0 10)).bind fun _ =>
  (alc h205_184 (n + 140) 18 0).bind fun h198_195 =>
  (fX8_init (n + 141) h198_195 (n + 140)).bind fun h202_197 =>
  (nng (n + 140)).bind fun _ =>
  (aput h202_197 (h205_184 a0 10) (w32 (w32 (w32 (w32 (w32 (w32 (w32 (0 + 1) + 1) + 1) + 1) + 1) + 1) + 1)) (n + 140)).bind fun h205_198 =>
  (nng (h205_198 a0 10)).bind fun _ =>
  if w32 (w32 (w32 (w32 (w32 (w32 (w32 (w32 (0 + 1) + 1) + 1) + 1) + 1) + 1) + 1) + 1) < h205_198 (h205_198 a0 10) (-1) then none else
  (nng (h205_198 a0 12)).bind fun _ =>
  if 0 < h205_198 (h205_198 a0 12) (-1) then
  (nng (h205_198 a0 12)).bind fun _ =>
  (alc h205_198 (n + 149) 10 0).bind fun h228_216 =>
  (fX0_init (n + 150) h228_216 (n + 149)).bind fun h232_218 =>
  (nng (n + 149)).bind fun _ =>
  (aput h232_218 (h205_198 a0 12) 0 (n + 149)).bind fun h235_219 =>
  (nng (h235_219 a0 12)).bind fun _ =>
  if w32 (0 + 1) < h235_219 (h235_219 a0 12) (-1) then
  (nng (h235_219 a0 12)).bind fun _ =>
  (alc h235_219 (n + 170) 10 0).bind fun h228_230 =>
  (fX0_init (n + 171) h228_230 (n + 170)).bind fun h232_232 =>
  (nng (n + 170)).bind fun _ =>
  (aput h232_232 (h235_219 a0 12) (w32 (0 + 1)) (n + 170)).bind fun h235_233 =>
  (nng (h235_233 a0 12)).bind fun _ =>
  if w32 (w32 (0 + 1) + 1) < h235_233 (h235_233 a0 12) (-1) then none else
  (nng (h235_233 a0 13)).bind fun _ =>
  if 0 ≤ h235_233 (h235_233 a0 13) (-1) ∧ h235_233 (h235_233 a0 13) (-1) < 100000 then some (seg h235_233 (h235_233 a0 13) 0 (h235_233 (h235_233 a0 13) (-1)) (fun _ => -1)) else none
  else none
  else none
  else none
  else none
  else none
  else none
  else none
  else none
  else none
  else none
set_option maxRecDepth 100000 in
set_option maxHeartbeats 8000000 in
theorem ini2_ok {n a0 : Int} {h r : hH} (hr : fX11_ini2 n h a0 = some r) : fX11_init n h a0 = some r := by
  unfold fX11_ini2 at hr
  unfold fX11_init
  obtain ⟨h5_4, e1, hr⟩ := bnd hr
  refine bnd_in e1 ?_
  obtain ⟨h9_6, e2, hr⟩ := bnd hr
  refine bnd_in e2 ?_
  obtain ⟨h12_7, e3, hr⟩ := bnd hr
  refine bnd_in e3 ?_
  obtain ⟨h16_9, e4, hr⟩ := bnd hr
  refine bnd_in e4 ?_
  obtain ⟨h20_11, e5, hr⟩ := bnd hr
  refine bnd_in e5 ?_
  obtain ⟨h23_12, e6, hr⟩ := bnd hr
  refine bnd_in e6 ?_
  obtain ⟨h27_14, e7, hr⟩ := bnd hr
  refine bnd_in e7 ?_
  obtain ⟨h31_16, e8, hr⟩ := bnd hr
  refine bnd_in e8 ?_
  obtain ⟨h34_17, e9, hr⟩ := bnd hr
  refine bnd_in e9 ?_
  obtain ⟨h38_19, e10, hr⟩ := bnd hr
  refine bnd_in e10 ?_
  obtain ⟨h42_21, e11, hr⟩ := bnd hr
  refine bnd_in e11 ?_
  obtain ⟨h45_22, e12, hr⟩ := bnd hr
  refine bnd_in e12 ?_
  obtain ⟨h49_24, e13, hr⟩ := bnd hr
  refine bnd_in e13 ?_
  obtain ⟨_v14, e14, hr⟩ := bnd hr
  refine bnd_in e14 ?_
  obtain ⟨h57_28, e15, hr⟩ := bnd hr
  refine bnd_in e15 ?_
  obtain ⟨h60_29, e16, hr⟩ := bnd hr
  refine bnd_in e16 ?_
  obtain ⟨h64_31, e17, hr⟩ := bnd hr
  refine bnd_in e17 ?_
  obtain ⟨_v18, e18, hr⟩ := bnd hr
  refine bnd_in e18 ?_
  obtain ⟨_v19, e19, hr⟩ := bnd hr
  refine bnd_in e19 ?_
  obtain ⟨h76_37, e20, hr⟩ := bnd hr
  refine bnd_in e20 ?_
  obtain ⟨h79_38, e21, hr⟩ := bnd hr
  refine bnd_in e21 ?_
  obtain ⟨h83_40, e22, hr⟩ := bnd hr
  refine bnd_in e22 ?_
  obtain ⟨_v23, e23, hr⟩ := bnd hr
  refine bnd_in e23 ?_
  obtain ⟨_v24, e24, hr⟩ := bnd hr
  refine bnd_in e24 ?_
  obtain ⟨h95_46, e25, hr⟩ := bnd hr
  refine bnd_in e25 ?_
  obtain ⟨h98_47, e26, hr⟩ := bnd hr
  refine bnd_in e26 ?_
  obtain ⟨h102_49, e27, hr⟩ := bnd hr
  refine bnd_in e27 ?_
  obtain ⟨_v28, e28, hr⟩ := bnd hr
  refine bnd_in e28 ?_
  obtain ⟨_v29, e29, hr⟩ := bnd hr
  refine bnd_in e29 ?_
  obtain ⟨h114_55, e30, hr⟩ := bnd hr
  refine bnd_in e30 ?_
  obtain ⟨h117_56, e31, hr⟩ := bnd hr
  refine bnd_in e31 ?_
  obtain ⟨h121_58, e32, hr⟩ := bnd hr
  refine bnd_in e32 ?_
  obtain ⟨_v33, e33, hr⟩ := bnd hr
  refine bnd_in e33 ?_
  obtain ⟨_v34, e34, hr⟩ := bnd hr
  refine bnd_in e34 ?_
  obtain ⟨h133_64, e35, hr⟩ := bnd hr
  refine bnd_in e35 ?_
  obtain ⟨h136_65, e36, hr⟩ := bnd hr
  refine bnd_in e36 ?_
  obtain ⟨h140_67, e37, hr⟩ := bnd hr
  refine bnd_in e37 ?_
  obtain ⟨h144_69, e38, hr⟩ := bnd hr
  refine bnd_in e38 ?_
  obtain ⟨h147_70, e39, hr⟩ := bnd hr
  refine bnd_in e39 ?_
  obtain ⟨h153_73, e40, hr⟩ := bnd hr
  refine bnd_in e40 ?_
  obtain ⟨h156_74, e41, hr⟩ := bnd hr
  refine bnd_in e41 ?_
  obtain ⟨h161_77, e42, hr⟩ := bnd hr
  refine bnd_in e42 ?_
  obtain ⟨h164_78, e43, hr⟩ := bnd hr
  refine bnd_in e43 ?_
  obtain ⟨h169_81, e44, hr⟩ := bnd hr
  refine bnd_in e44 ?_
  obtain ⟨h171_82, e45, hr⟩ := bnd hr
  refine bnd_in e45 ?_
  obtain ⟨h177_85, e46, hr⟩ := bnd hr
  refine bnd_in e46 ?_
  obtain ⟨h179_86, e47, hr⟩ := bnd hr
  refine bnd_in e47 ?_
  obtain ⟨_v48, e48, hr⟩ := bnd hr
  refine bnd_in e48 ?_
  obtain ⟨c49, hr⟩ := ite_out hr
  refine ite_in c49 ?_
  obtain ⟨_v50, e50, hr⟩ := bnd hr
  refine bnd_in e50 ?_
  obtain ⟨h198_97, e51, hr⟩ := bnd hr
  refine bnd_in e51 ?_
  obtain ⟨h202_99, e52, hr⟩ := bnd hr
  refine bnd_in e52 ?_
  obtain ⟨_v53, e53, hr⟩ := bnd hr
  refine bnd_in e53 ?_
  obtain ⟨h205_100, e54, hr⟩ := bnd hr
  refine bnd_in e54 ?_
  obtain ⟨_v55, e55, hr⟩ := bnd hr
  refine bnd_in e55 ?_
  obtain ⟨c56, hr⟩ := ite_out hr
  refine ite_in c56 ?_
  obtain ⟨_v57, e57, hr⟩ := bnd hr
  refine bnd_in e57 ?_
  obtain ⟨h198_111, e58, hr⟩ := bnd hr
  refine bnd_in e58 ?_
  obtain ⟨h202_113, e59, hr⟩ := bnd hr
  refine bnd_in e59 ?_
  obtain ⟨_v60, e60, hr⟩ := bnd hr
  refine bnd_in e60 ?_
  obtain ⟨h205_114, e61, hr⟩ := bnd hr
  refine bnd_in e61 ?_
  obtain ⟨_v62, e62, hr⟩ := bnd hr
  refine bnd_in e62 ?_
  obtain ⟨c63, hr⟩ := ite_out hr
  refine ite_in c63 ?_
  obtain ⟨_v64, e64, hr⟩ := bnd hr
  refine bnd_in e64 ?_
  obtain ⟨h198_125, e65, hr⟩ := bnd hr
  refine bnd_in e65 ?_
  obtain ⟨h202_127, e66, hr⟩ := bnd hr
  refine bnd_in e66 ?_
  obtain ⟨_v67, e67, hr⟩ := bnd hr
  refine bnd_in e67 ?_
  obtain ⟨h205_128, e68, hr⟩ := bnd hr
  refine bnd_in e68 ?_
  obtain ⟨_v69, e69, hr⟩ := bnd hr
  refine bnd_in e69 ?_
  obtain ⟨c70, hr⟩ := ite_out hr
  refine ite_in c70 ?_
  obtain ⟨_v71, e71, hr⟩ := bnd hr
  refine bnd_in e71 ?_
  obtain ⟨h198_139, e72, hr⟩ := bnd hr
  refine bnd_in e72 ?_
  obtain ⟨h202_141, e73, hr⟩ := bnd hr
  refine bnd_in e73 ?_
  obtain ⟨_v74, e74, hr⟩ := bnd hr
  refine bnd_in e74 ?_
  obtain ⟨h205_142, e75, hr⟩ := bnd hr
  refine bnd_in e75 ?_
  obtain ⟨_v76, e76, hr⟩ := bnd hr
  refine bnd_in e76 ?_
  obtain ⟨c77, hr⟩ := ite_out hr
  refine ite_in c77 ?_
  obtain ⟨_v78, e78, hr⟩ := bnd hr
  refine bnd_in e78 ?_
  obtain ⟨h198_153, e79, hr⟩ := bnd hr
  refine bnd_in e79 ?_
  obtain ⟨h202_155, e80, hr⟩ := bnd hr
  refine bnd_in e80 ?_
  obtain ⟨_v81, e81, hr⟩ := bnd hr
  refine bnd_in e81 ?_
  obtain ⟨h205_156, e82, hr⟩ := bnd hr
  refine bnd_in e82 ?_
  obtain ⟨_v83, e83, hr⟩ := bnd hr
  refine bnd_in e83 ?_
  obtain ⟨c84, hr⟩ := ite_out hr
  refine ite_in c84 ?_
  obtain ⟨_v85, e85, hr⟩ := bnd hr
  refine bnd_in e85 ?_
  obtain ⟨h198_167, e86, hr⟩ := bnd hr
  refine bnd_in e86 ?_
  obtain ⟨h202_169, e87, hr⟩ := bnd hr
  refine bnd_in e87 ?_
  obtain ⟨_v88, e88, hr⟩ := bnd hr
  refine bnd_in e88 ?_
  obtain ⟨h205_170, e89, hr⟩ := bnd hr
  refine bnd_in e89 ?_
  obtain ⟨_v90, e90, hr⟩ := bnd hr
  refine bnd_in e90 ?_
  obtain ⟨c91, hr⟩ := ite_out hr
  refine ite_in c91 ?_
  obtain ⟨_v92, e92, hr⟩ := bnd hr
  refine bnd_in e92 ?_
  obtain ⟨h198_181, e93, hr⟩ := bnd hr
  refine bnd_in e93 ?_
  obtain ⟨h202_183, e94, hr⟩ := bnd hr
  refine bnd_in e94 ?_
  obtain ⟨_v95, e95, hr⟩ := bnd hr
  refine bnd_in e95 ?_
  obtain ⟨h205_184, e96, hr⟩ := bnd hr
  refine bnd_in e96 ?_
  obtain ⟨_v97, e97, hr⟩ := bnd hr
  refine bnd_in e97 ?_
  obtain ⟨c98, hr⟩ := ite_out hr
  refine ite_in c98 ?_
  obtain ⟨_v99, e99, hr⟩ := bnd hr
  refine bnd_in e99 ?_
  obtain ⟨h198_195, e100, hr⟩ := bnd hr
  refine bnd_in e100 ?_
  obtain ⟨h202_197, e101, hr⟩ := bnd hr
  refine bnd_in e101 ?_
  obtain ⟨_v102, e102, hr⟩ := bnd hr
  refine bnd_in e102 ?_
  obtain ⟨h205_198, e103, hr⟩ := bnd hr
  refine bnd_in e103 ?_
  obtain ⟨_v104, e104, hr⟩ := bnd hr
  refine bnd_in e104 ?_
  obtain ⟨c105, hr⟩ := ite_out2 hr
  refine ite_in2 c105 ?_
  obtain ⟨_v106, e106, hr⟩ := bnd hr
  refine bnd_in e106 ?_
  obtain ⟨c107, hr⟩ := ite_out hr
  refine ite_in c107 ?_
  obtain ⟨_v108, e108, hr⟩ := bnd hr
  refine bnd_in e108 ?_
  obtain ⟨h228_216, e109, hr⟩ := bnd hr
  refine bnd_in e109 ?_
  obtain ⟨h232_218, e110, hr⟩ := bnd hr
  refine bnd_in e110 ?_
  obtain ⟨_v111, e111, hr⟩ := bnd hr
  refine bnd_in e111 ?_
  obtain ⟨h235_219, e112, hr⟩ := bnd hr
  refine bnd_in e112 ?_
  obtain ⟨_v113, e113, hr⟩ := bnd hr
  refine bnd_in e113 ?_
  obtain ⟨c114, hr⟩ := ite_out hr
  refine ite_in c114 ?_
  obtain ⟨_v115, e115, hr⟩ := bnd hr
  refine bnd_in e115 ?_
  obtain ⟨h228_230, e116, hr⟩ := bnd hr
  refine bnd_in e116 ?_
  obtain ⟨h232_232, e117, hr⟩ := bnd hr
  refine bnd_in e117 ?_
  obtain ⟨_v118, e118, hr⟩ := bnd hr
  refine bnd_in e118 ?_
  obtain ⟨h235_233, e119, hr⟩ := bnd hr
  refine bnd_in e119 ?_
  obtain ⟨_v120, e120, hr⟩ := bnd hr
  refine bnd_in e120 ?_
  obtain ⟨c121, hr⟩ := ite_out2 hr
  refine ite_in2 c121 ?_
  obtain ⟨_v122, e122, hr⟩ := bnd hr
  refine bnd_in e122 ?_
  obtain ⟨hc9, hr⟩ := ite_out hr
  refine bnd_in (fill_ok hc9.1 hc9.2) ?_
  exact hr
theorem getD_of {α : Type} {m : Option α} {d : α} (h : m.isSome = true) : m = some (m.getD d) := by
  cases m with
  | none => cases h
  | some a => rfl
noncomputable def hM0 : hH := alH (fun _ _ => 0) 0 21 0
noncomputable def hM1 : hH := (fX11_ini2 1 hM0 0).getD hM0
noncomputable def hM2 : hH := alH hM1 192 22 0
noncomputable def hM3 : hH := (fX12_init 193 hM2 192).getD hM2
noncomputable def hM4 : hH := alH hM3 224 51 1
theorem mk_0 : alc (fun _ _ => 0) 0 21 0 = some hM0 := if_pos (by decide +kernel)
theorem mk_1s : (fX11_ini2 1 hM0 0).isSome = true := by decide +kernel
theorem mk_1 : fX11_init 1 hM0 0 = some hM1 := ini2_ok (getD_of mk_1s)
theorem mk_2c : nn hM1 = 192 ∧ 0 ≤ (192 : Int) ∧ (192 : Int) < lay.length ∧ kd (192 : Int).toNat = 22 ∧ 0 ≤ (0 : Int) ∧ (0 : Int) < 100000 := by decide +kernel
theorem mk_2 : alc hM1 192 22 0 = some hM2 := if_pos mk_2c
theorem mk_3s : (fX12_init 193 hM2 192).isSome = true := by decide +kernel
theorem mk_3 : fX12_init 193 hM2 192 = some hM3 := getD_of mk_3s
theorem mk_4c : nn hM3 = 224 ∧ 0 ≤ (224 : Int) ∧ (224 : Int) < lay.length ∧ kd (224 : Int).toNat = 51 ∧ 0 ≤ (1 : Int) ∧ (1 : Int) < 100000 := by decide +kernel
theorem mk_4 : alc hM3 224 51 1 = some hM4 := if_pos mk_4c
