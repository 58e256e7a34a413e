/-! X11_book -/
theorem dX11_book_0 : decode cX11_book 0 = .ok (.iload_n 1, 1) := by decide +kernel
theorem dX11_book_1 : decode cX11_book 1 = .ok (.ifCond .eq 12, 3) := by decide +kernel
theorem dX11_book_4 : decode cX11_book 4 = .ok (.iload_n 1, 1) := by decide +kernel
theorem dX11_book_5 : decode cX11_book 5 = .ok (.iconst 1, 1) := by decide +kernel
theorem dX11_book_6 : decode cX11_book 6 = .ok (.if_icmp .eq 7, 3) := by decide +kernel
theorem dX11_book_9 : decode cX11_book 9 = .ok (.sipush (-1000), 3) := by decide +kernel
theorem dX11_book_12 : decode cX11_book 12 = .ok (.ireturn, 1) := by decide +kernel
theorem dX11_book_13 : decode cX11_book 13 = .ok (.aload_n 0, 1) := by decide +kernel
theorem dX11_book_14 : decode cX11_book 14 = .ok (.getfield 58, 3) := by decide +kernel
theorem dX11_book_17 : decode cX11_book 17 = .ok (.invokevirtual 355, 3) := by decide +kernel
theorem dX11_book_20 : decode cX11_book 20 = .ok (.istore_n 2, 1) := by decide +kernel
theorem dX11_book_21 : decode cX11_book 21 = .ok (.aload_n 0, 1) := by decide +kernel
theorem dX11_book_22 : decode cX11_book 22 = .ok (.getfield 12, 3) := by decide +kernel
theorem dX11_book_25 : decode cX11_book 25 = .ok (.iconst 0, 1) := by decide +kernel
theorem dX11_book_26 : decode cX11_book 26 = .ok (.putfield 102, 3) := by decide +kernel
theorem dX11_book_29 : decode cX11_book 29 = .ok (.iload_n 2, 1) := by decide +kernel
theorem dX11_book_30 : decode cX11_book 30 = .ok (.ifCond .ne 14, 3) := by decide +kernel
theorem dX11_book_33 : decode cX11_book 33 = .ok (.bipush (-2), 2) := by decide +kernel
theorem dX11_book_35 : decode cX11_book 35 = .ok (.aload_n 0, 1) := by decide +kernel
theorem dX11_book_36 : decode cX11_book 36 = .ok (.getfield 12, 3) := by decide +kernel
theorem dX11_book_39 : decode cX11_book 39 = .ok (.getfield 114, 3) := by decide +kernel
theorem dX11_book_42 : decode cX11_book 42 = .ok (.isub, 1) := by decide +kernel
theorem dX11_book_43 : decode cX11_book 43 = .ok (.ireturn, 1) := by decide +kernel
theorem dX11_book_44 : decode cX11_book 44 = .ok (.aload_n 0, 1) := by decide +kernel
theorem dX11_book_45 : decode cX11_book 45 = .ok (.getfield 74, 3) := by decide +kernel
theorem dX11_book_48 : decode cX11_book 48 = .ok (.aload_n 0, 1) := by decide +kernel
theorem dX11_book_49 : decode cX11_book 49 = .ok (.getfield 26, 3) := by decide +kernel
theorem dX11_book_52 : decode cX11_book 52 = .ok (.invokevirtual 217, 3) := by decide +kernel
theorem dX11_book_55 : decode cX11_book 55 = .ok (.iconst 0, 1) := by decide +kernel
theorem dX11_book_56 : decode cX11_book 56 = .ok (.istore_n 3, 1) := by decide +kernel
theorem dX11_book_57 : decode cX11_book 57 = .ok (.iconst 0, 1) := by decide +kernel
theorem dX11_book_58 : decode cX11_book 58 = .ok (.istore 4, 2) := by decide +kernel
theorem dX11_book_60 : decode cX11_book 60 = .ok (.iconst 0, 1) := by decide +kernel
theorem dX11_book_61 : decode cX11_book 61 = .ok (.istore 5, 2) := by decide +kernel
theorem dX11_book_63 : decode cX11_book 63 = .ok (.iload 5, 2) := by decide +kernel
theorem dX11_book_65 : decode cX11_book 65 = .ok (.aload_n 0, 1) := by decide +kernel
theorem dX11_book_66 : decode cX11_book 66 = .ok (.getfield 58, 3) := by decide +kernel
theorem dX11_book_69 : decode cX11_book 69 = .ok (.getfield 358, 3) := by decide +kernel
theorem dX11_book_72 : decode cX11_book 72 = .ok (.if_icmp .ge 27, 3) := by decide +kernel
theorem dX11_book_75 : decode cX11_book 75 = .ok (.iload_n 3, 1) := by decide +kernel
theorem dX11_book_76 : decode cX11_book 76 = .ok (.ifCond .ne 23, 3) := by decide +kernel
theorem dX11_book_79 : decode cX11_book 79 = .ok (.aload_n 0, 1) := by decide +kernel
theorem dX11_book_80 : decode cX11_book 80 = .ok (.iload 5, 2) := by decide +kernel
theorem dX11_book_82 : decode cX11_book 82 = .ok (.invokevirtual 337, 3) := by decide +kernel
theorem dX11_book_85 : decode cX11_book 85 = .ok (.istore_n 3, 1) := by decide +kernel
theorem dX11_book_86 : decode cX11_book 86 = .ok (.iload_n 3, 1) := by decide +kernel
theorem dX11_book_87 : decode cX11_book 87 = .ok (.ifCond .ne 6, 3) := by decide +kernel
theorem dX11_book_90 : decode cX11_book 90 = .ok (.iinc 4 1, 3) := by decide +kernel
theorem dX11_book_93 : decode cX11_book 93 = .ok (.iinc 5 1, 3) := by decide +kernel
theorem dX11_book_96 : decode cX11_book 96 = .ok (.goto (-33), 3) := by decide +kernel
theorem dX11_book_99 : decode cX11_book 99 = .ok (.aload_n 0, 1) := by decide +kernel
theorem dX11_book_100 : decode cX11_book 100 = .ok (.getfield 87, 3) := by decide +kernel
theorem dX11_book_103 : decode cX11_book 103 = .ok (.iconst 0, 1) := by decide +kernel
theorem dX11_book_104 : decode cX11_book 104 = .ok (.iload_n 3, 1) := by decide +kernel
theorem dX11_book_105 : decode cX11_book 105 = .ok (.invokestatic 361, 3) := by decide +kernel
theorem dX11_book_108 : decode cX11_book 108 = .ok (.aload_n 0, 1) := by decide +kernel
theorem dX11_book_109 : decode cX11_book 109 = .ok (.getfield 87, 3) := by decide +kernel
theorem dX11_book_112 : decode cX11_book 112 = .ok (.iconst 1, 1) := by decide +kernel
theorem dX11_book_113 : decode cX11_book 113 = .ok (.iload 4, 2) := by decide +kernel
theorem dX11_book_115 : decode cX11_book 115 = .ok (.invokestatic 361, 3) := by decide +kernel
theorem dX11_book_118 : decode cX11_book 118 = .ok (.aload_n 0, 1) := by decide +kernel
theorem dX11_book_119 : decode cX11_book 119 = .ok (.getfield 87, 3) := by decide +kernel
theorem dX11_book_122 : decode cX11_book 122 = .ok (.iconst 2, 1) := by decide +kernel
theorem dX11_book_123 : decode cX11_book 123 = .ok (.aload_n 0, 1) := by decide +kernel
theorem dX11_book_124 : decode cX11_book 124 = .ok (.getfield 26, 3) := by decide +kernel
theorem dX11_book_127 : decode cX11_book 127 = .ok (.getfield 152, 3) := by decide +kernel
theorem dX11_book_130 : decode cX11_book 130 = .ok (.getfield 222, 3) := by decide +kernel
theorem dX11_book_133 : decode cX11_book 133 = .ok (.invokestatic 361, 3) := by decide +kernel
theorem dX11_book_136 : decode cX11_book 136 = .ok (.aload_n 0, 1) := by decide +kernel
theorem dX11_book_137 : decode cX11_book 137 = .ok (.getfield 87, 3) := by decide +kernel
theorem dX11_book_140 : decode cX11_book 140 = .ok (.iconst 3, 1) := by decide +kernel
theorem dX11_book_141 : decode cX11_book 141 = .ok (.aload_n 0, 1) := by decide +kernel
theorem dX11_book_142 : decode cX11_book 142 = .ok (.getfield 71, 3) := by decide +kernel
theorem dX11_book_145 : decode cX11_book 145 = .ok (.getfield 193, 3) := by decide +kernel
theorem dX11_book_148 : decode cX11_book 148 = .ok (.aload_n 0, 1) := by decide +kernel
theorem dX11_book_149 : decode cX11_book 149 = .ok (.getfield 19, 3) := by decide +kernel
theorem dX11_book_152 : decode cX11_book 152 = .ok (.aload_n 0, 1) := by decide +kernel
theorem dX11_book_153 : decode cX11_book 153 = .ok (.getfield 26, 3) := by decide +kernel
theorem dX11_book_156 : decode cX11_book 156 = .ok (.getfield 152, 3) := by decide +kernel
theorem dX11_book_159 : decode cX11_book 159 = .ok (.iconst 1, 1) := by decide +kernel
theorem dX11_book_160 : decode cX11_book 160 = .ok (.invokevirtual 210, 3) := by decide +kernel
theorem dX11_book_163 : decode cX11_book 163 = .ok (.invokestatic 361, 3) := by decide +kernel
theorem dX11_book_166 : decode cX11_book 166 = .ok (.iload_n 1, 1) := by decide +kernel
theorem dX11_book_167 : decode cX11_book 167 = .ok (.ifCond .ne 17, 3) := by decide +kernel
theorem dX11_book_170 : decode cX11_book 170 = .ok (.aload_n 0, 1) := by decide +kernel
theorem dX11_book_171 : decode cX11_book 171 = .ok (.getfield 26, 3) := by decide +kernel
theorem dX11_book_174 : decode cX11_book 174 = .ok (.aload_n 0, 1) := by decide +kernel
theorem dX11_book_175 : decode cX11_book 175 = .ok (.getfield 74, 3) := by decide +kernel
theorem dX11_book_178 : decode cX11_book 178 = .ok (.invokevirtual 217, 3) := by decide +kernel
theorem dX11_book_181 : decode cX11_book 181 = .ok (.goto 16, 3) := by decide +kernel
theorem dX11_book_184 : decode cX11_book 184 = .ok (.iload 4, 2) := by decide +kernel
theorem dX11_book_186 : decode cX11_book 186 = .ok (.ifCond .le 11, 3) := by decide +kernel
theorem dX11_book_189 : decode cX11_book 189 = .ok (.aload_n 0, 1) := by decide +kernel
theorem dX11_book_190 : decode cX11_book 190 = .ok (.aload_n 0, 1) := by decide +kernel
theorem dX11_book_191 : decode cX11_book 191 = .ok (.getfield 74, 3) := by decide +kernel
theorem dX11_book_194 : decode cX11_book 194 = .ok (.invokevirtual 148, 3) := by decide +kernel
theorem dX11_book_197 : decode cX11_book 197 = .ok (.iload_n 3, 1) := by decide +kernel
theorem dX11_book_198 : decode cX11_book 198 = .ok (.ifCond .ne 7, 3) := by decide +kernel
theorem dX11_book_201 : decode cX11_book 201 = .ok (.iconst (-1), 1) := by decide +kernel
theorem dX11_book_202 : decode cX11_book 202 = .ok (.goto 5, 3) := by decide +kernel
theorem dX11_book_205 : decode cX11_book 205 = .ok (.iload 4, 2) := by decide +kernel
theorem dX11_book_207 : decode cX11_book 207 = .ok (.ireturn, 1) := by decide +kernel
abbrev M_X11_book : mM := (cX11_book, 6, RX11, some .int, false, 8, 192, 0, 0)
theorem gX11_book : cI yX11_book M_X11_book 1 := ⟨(wsl_65 _ (List.mem_of_getElem? (i := 3) rfl)), (wsl_65 _ (List.mem_of_getElem? (i := 4) rfl)), (wsl_1 _ (List.mem_of_getElem? (i := 2) rfl)), (wsl_65 _ (List.mem_of_getElem? (i := 5) rfl)), by decide +kernel⟩
noncomputable def fX11_book_b197 (h : hH) (l3 l4 : Int) : Option (Int × hH) :=
  if l3 = 0 then
    some (-1, h)
  else
    some (l4, h)
noncomputable def fX11_book_b99 (h : hH) (a0 a1 l3 l4 : Int) : Option (Int × hH) :=
  (fX11_put h (h a0 13) 0 l3).bind fun h105 =>
  (fX11_put h105 (h105 a0 13) 1 l4).bind fun h115 =>
  (fX11_put h115 (h115 a0 13) 2 (h115 (h115 (h115 a0 2) 0) 0)).bind fun h133 =>
  (fX10_scan h133 (h133 (h133 a0 8) 3) (h133 a0 1) (h133 (h133 a0 2) 0) 1).bind fun q160 =>
  (fX11_put q160.2 (h133 a0 13) 3 q160.1).bind fun h163 =>
  if a1 = 0 then
    (fX8_copyFrom h163 (h163 a0 2) (h163 a0 9)).bind fun h178 =>
    fX11_book_b197 h178 l3 l4
  else
    if 0 < l4 then
      (fX11_keepForUndo h163 a0 (h163 a0 9)).bind fun h194 =>
      fX11_book_b197 h194 l3 l4
    else
      fX11_book_b197 h163 l3 l4
noncomputable def fX11_book_s63 (h0 : hH) (a0 a1 : Int) : hH × Int × Int × Int → Option ((hH × Int × Int × Int) ⊕ (Int × hH)) := fun (h, l3, l4, l5) =>
  if l5 < h (h a0 6) 2 then
    if l3 = 0 then
      (fX11_runLine h a0 l5).bind fun q82 =>
      if q82.1 = 0 then
        some (.inl (q82.2, q82.1, w32 (l4 + 1), w32 (l5 + 1)))
      else
        some (.inl (q82.2, q82.1, l4, w32 (l5 + 1)))
    else
      (fX11_book_b99 h a0 a1 l3 l4).map (fun z9 => .inr (z9))
  else
    (fX11_book_b99 h a0 a1 l3 l4).map (fun z9 => .inr (z9))
noncomputable def fX11_book_b13 (h : hH) (a0 a1 : Int) : Option (Int × hH) :=
  (fX2_readBook h (h a0 6)).bind fun q17 =>
  (pput q17.2 (q17.2 a0 0) 1 0).bind fun h26 =>
  if q17.1 = 0 then
    some (w32 ((-2) - (h26 (h26 a0 0) 9)), h26)
  else
    (fX8_copyFrom h26 (h26 a0 9) (h26 a0 2)).bind fun h52 =>
    lpO (fX11_book_s63 h52 a0 a1) (h52, 0, 0, 0)
noncomputable def fX11_book (h : hH) (a0 a1 : Int) : Option (Int × hH) :=
  if a1 = 0 then
    fX11_book_b13 h a0 a1
  else
    if a1 = 1 then
      fX11_book_b13 h a0 a1
    else
      some (-1000, h)
section M_X11_book
variable {p : Program} {l : Launch} {e : Env} {R : Room} {s : State} {m : MethodId} {args : Array Value} {below : List Frame} {meth : Method} {c : Code} {D : va_G} {G : gG} {A : Nat → Prop} {H0 : Heap} {n0 : Int} {x : Option vV × hH} {h : hH}
set_option maxRecDepth 100000 in
set_option maxHeartbeats 4000000 in
theorem oX11_book_b197 {l3 l4 : Int} {K : Int × hH → Prop} (k0 : ∀ r, K (r) → x = (some (0, r.1), r.2)) {r : Int × hH} (hr : fX11_book_b197 h l3 l4 = some r) (hk : K r) : Wq p l e R s m args below meth c D G A H0 true n0 M_X11_book x 0 0 197 [(3, (0, l3)), (4, (0, l4))] [] h := by
  unfold fX11_book_b197 at hr
  refine r_iload_n dX11_book_197 rfl 0 rfl (Or.inl rfl) ?_
  refine r_if_ne dX11_book_198 (tgt := 205) (by decide) (fun hc => ?_) (fun hc => ?_)
  · have hr := ifn hr hc
    refine r_iload dX11_book_205 1 rfl (Or.inl rfl) ?_
    obtain rfl := Option.some.inj hr
    exact r_ret dX11_book_207 rfl (Or.inl ⟨rfl, rfl⟩) (k0 _ hk) ⟨rfl, rfl⟩
  · have hr := ifp hr hc
    refine r_iconst dX11_book_201 (by decide) ?_
    refine r_goto dX11_book_202 (tgt := 207) (by decide) ?_
    obtain rfl := Option.some.inj hr
    exact r_ret dX11_book_207 rfl (Or.inl ⟨rfl, rfl⟩) (k0 _ hk) ⟨rfl, rfl⟩
set_option maxRecDepth 100000 in
set_option maxHeartbeats 4000000 in
theorem oX11_book_b99 {a0 a1 l3 l4 : Int} {K : Int × hH → Prop} (k0 : ∀ r, K (r) → x = (some (0, r.1), r.2)) {r : Int × hH} (hr : fX11_book_b99 h a0 a1 l3 l4 = some r) (hk : K r) : Wq p l e R s m args below meth c D G A H0 true n0 M_X11_book x 0 0 99 [(0, (21, a0)), (1, (0, a1)), (3, (0, l3)), (4, (0, l4))] [] h := by
  unfold fX11_book_b99 at hr
  refine r_aload_n dX11_book_99 rfl 0 rfl (nl rfl) ?_
  refine r_get 11 13 (o := a0) (w := (50, h a0 13)) (T := TX11) (ref := "FollowingRefs") rfl (by decide) rfl (by decide) inlX11 (wsl_3 _ (List.mem_of_getElem? (i := 3) rfl)) rfl dX11_book_100 rfl ?_
  refine r_iconst dX11_book_103 (by decide) ?_
  refine r_iload_n dX11_book_104 rfl 2 rfl (Or.inl rfl) ?_
  obtain ⟨h105, hg105, hr⟩ := bnd hr
  refine k_S (as := [(50, h a0 13), (0, 0), (0, l3)]) (rest := []) (X := (none, h105)) (oX11_put hg105) gX11_put rfl (wsl_65 _ (List.mem_of_getElem? (i := 12) rfl)) rfl dX11_book_105 rfl ?_
  refine r_aload_n dX11_book_108 rfl 0 rfl (nl rfl) ?_
  refine r_get 11 13 (o := a0) (w := (50, h105 a0 13)) (T := TX11) (ref := "FollowingRefs") rfl (by decide) rfl (by decide) inlX11 (wsl_3 _ (List.mem_of_getElem? (i := 3) rfl)) rfl dX11_book_109 rfl ?_
  refine r_iconst dX11_book_112 (by decide) ?_
  refine r_iload dX11_book_113 3 rfl (Or.inl rfl) ?_
  obtain ⟨h115, hg115, hr⟩ := bnd hr
  refine k_S (as := [(50, h105 a0 13), (0, 1), (0, l4)]) (rest := []) (X := (none, h115)) (oX11_put hg115) gX11_put rfl (wsl_65 _ (List.mem_of_getElem? (i := 12) rfl)) rfl dX11_book_115 rfl ?_
  refine r_aload_n dX11_book_118 rfl 0 rfl (nl rfl) ?_
  refine r_get 11 13 (o := a0) (w := (50, h115 a0 13)) (T := TX11) (ref := "FollowingRefs") rfl (by decide) rfl (by decide) inlX11 (wsl_3 _ (List.mem_of_getElem? (i := 3) rfl)) rfl dX11_book_119 rfl ?_
  refine r_iconst dX11_book_122 (by decide) ?_
  refine r_aload_n dX11_book_123 rfl 0 rfl (nl rfl) ?_
  refine r_get 11 2 (o := a0) (w := (18, h115 a0 2)) (T := TX11) (ref := "FollowingRefs") rfl (by decide) rfl (by decide) inlX11 (wsl_2 _ (List.mem_of_getElem? (i := 0) rfl)) rfl dX11_book_124 rfl ?_
  refine r_get 8 0 (o := h115 a0 2) (w := (13, h115 (h115 a0 2) 0)) (T := TX8) (ref := "FollowingRefs$State") rfl (by decide) rfl (by decide) inlX8 (wsl_29 _ (List.mem_of_getElem? (i := 9) rfl)) rfl dX11_book_127 rfl ?_
  refine r_get 3 0 (o := h115 (h115 a0 2) 0) (w := (0, h115 (h115 (h115 a0 2) 0) 0)) (T := TX3) (ref := "FollowingRefs$Rows") rfl (by decide) rfl (by decide) inlX3 (wsl_52 _ (List.mem_of_getElem? (i := 8) rfl)) rfl dX11_book_130 rfl ?_
  obtain ⟨h133, hg133, hr⟩ := bnd hr
  refine k_S (as := [(50, h115 a0 13), (0, 2), (0, h115 (h115 (h115 a0 2) 0) 0)]) (rest := []) (X := (none, h133)) (oX11_put hg133) gX11_put rfl (wsl_65 _ (List.mem_of_getElem? (i := 12) rfl)) rfl dX11_book_133 rfl ?_
  refine r_aload_n dX11_book_136 rfl 0 rfl (nl rfl) ?_
  refine r_get 11 13 (o := a0) (w := (50, h133 a0 13)) (T := TX11) (ref := "FollowingRefs") rfl (by decide) rfl (by decide) inlX11 (wsl_3 _ (List.mem_of_getElem? (i := 3) rfl)) rfl dX11_book_137 rfl ?_
  refine r_iconst dX11_book_140 (by decide) ?_
  refine r_aload_n dX11_book_141 rfl 0 rfl (nl rfl) ?_
  refine r_get 11 8 (o := a0) (w := (11, h133 a0 8)) (T := TX11) (ref := "FollowingRefs") rfl (by decide) rfl (by decide) inlX11 (wsl_2 _ (List.mem_of_getElem? (i := 21) rfl)) rfl dX11_book_142 rfl ?_
  refine r_get 1 3 (o := h133 a0 8) (w := (20, h133 (h133 a0 8) 3)) (T := TX1) (ref := "FollowingRefs$Judge") rfl (by decide) rfl (by decide) inlX1 (wsl_48 _ (List.mem_of_getElem? (i := 22) rfl)) rfl dX11_book_145 rfl ?_
  refine r_aload_n dX11_book_148 rfl 0 rfl (nl rfl) ?_
  refine r_get 11 1 (o := a0) (w := (14, h133 a0 1)) (T := TX11) (ref := "FollowingRefs") rfl (by decide) rfl (by decide) inlX11 (wsl_1 _ (List.mem_of_getElem? (i := 20) rfl)) rfl dX11_book_149 rfl ?_
  refine r_aload_n dX11_book_152 rfl 0 rfl (nl rfl) ?_
  refine r_get 11 2 (o := a0) (w := (18, h133 a0 2)) (T := TX11) (ref := "FollowingRefs") rfl (by decide) rfl (by decide) inlX11 (wsl_2 _ (List.mem_of_getElem? (i := 0) rfl)) rfl dX11_book_153 rfl ?_
  refine r_get 8 0 (o := h133 a0 2) (w := (13, h133 (h133 a0 2) 0)) (T := TX8) (ref := "FollowingRefs$State") rfl (by decide) rfl (by decide) inlX8 (wsl_29 _ (List.mem_of_getElem? (i := 9) rfl)) rfl dX11_book_156 rfl ?_
  refine r_iconst dX11_book_159 (by decide) ?_
  refine r_scast 0 (v := (0, 1)) (w := (2, 1)) rfl cz (fun _ => Or.inr rfl) (st' := [(2, 1), (13, h133 (h133 a0 2) 0), (14, h133 a0 1), (20, h133 (h133 a0 8) 3), (0, 3), (50, h133 a0 13)]) rfl ?_
  obtain ⟨q160, hg160, hr⟩ := bnd hr
  refine k_V (ci := 10) (o := h133 (h133 a0 8) 3) (T := TX10) (as := [(14, h133 a0 1), (13, h133 (h133 a0 2) 0), (2, 1)]) (rest := [(0, 3), (50, h133 a0 13)]) (X := (some (0, q160.1), q160.2)) (oX10_scan hg160) gX10_scan rfl (by decide) rfl (wsl_50 _ (List.mem_of_getElem? (i := 10) rfl)) rfl dX11_book_160 rfl ?_
  obtain ⟨h163, hg163, hr⟩ := bnd hr
  refine k_S (as := [(50, h133 a0 13), (0, 3), (0, q160.1)]) (rest := []) (X := (none, h163)) (oX11_put hg163) gX11_put rfl (wsl_65 _ (List.mem_of_getElem? (i := 12) rfl)) rfl dX11_book_163 rfl ?_
  refine r_iload_n dX11_book_166 rfl 1 rfl (Or.inl rfl) ?_
  refine r_if_ne dX11_book_167 (tgt := 184) (by decide) (fun hc => ?_) (fun hc => ?_)
  · have hr := ifn hr hc
    refine r_iload dX11_book_184 3 rfl (Or.inl rfl) ?_
    refine r_if_le dX11_book_186 (tgt := 197) (by decide) (fun hc => ?_) (fun hc => ?_)
    · have hr := ifn hr hc
      refine r_sub [2, 3] (lv' := [(3, (0, l3)), (4, (0, l4))]) rfl ?_
      exact oX11_book_b197 (K := K) (fun r z => k0 r z) hr hk
    · have hr := ifp hr hc
      refine r_aload_n dX11_book_189 rfl 0 rfl (nl rfl) ?_
      refine r_aload_n dX11_book_190 rfl 0 rfl (nl rfl) ?_
      refine r_get 11 9 (o := a0) (w := (18, h163 a0 9)) (T := TX11) (ref := "FollowingRefs") rfl (by decide) rfl (by decide) inlX11 (wsl_2 _ (List.mem_of_getElem? (i := 22) rfl)) rfl dX11_book_191 rfl ?_
      obtain ⟨h194, hg194, hr⟩ := bnd hr
      refine k_V (ci := 11) (o := a0) (T := TX11) (as := [(18, h163 a0 9)]) (rest := []) (X := (none, h194)) (oX11_keepForUndo hg194) gX11_keepForUndo rfl (by decide) rfl (wsl_39 _ (List.mem_of_getElem? (i := 17) rfl)) rfl dX11_book_194 rfl ?_
      refine r_sub [2, 3] (lv' := [(3, (0, l3)), (4, (0, l4))]) rfl ?_
      exact oX11_book_b197 (K := K) (fun r z => k0 r z) hr hk
  · have hr := ifp hr hc
    refine r_aload_n dX11_book_170 rfl 0 rfl (nl rfl) ?_
    refine r_get 11 2 (o := a0) (w := (18, h163 a0 2)) (T := TX11) (ref := "FollowingRefs") rfl (by decide) rfl (by decide) inlX11 (wsl_2 _ (List.mem_of_getElem? (i := 0) rfl)) rfl dX11_book_171 rfl ?_
    refine r_aload_n dX11_book_174 rfl 0 rfl (nl rfl) ?_
    refine r_get 11 9 (o := a0) (w := (18, h163 a0 9)) (T := TX11) (ref := "FollowingRefs") rfl (by decide) rfl (by decide) inlX11 (wsl_2 _ (List.mem_of_getElem? (i := 22) rfl)) rfl dX11_book_175 rfl ?_
    obtain ⟨h178, hg178, hr⟩ := bnd hr
    refine k_V (ci := 8) (o := h163 a0 2) (T := TX8) (as := [(18, h163 a0 9)]) (rest := []) (X := (none, h178)) (oX8_copyFrom hg178) gX8_copyFrom rfl (by decide) rfl (wsl_40 _ (List.mem_of_getElem? (i := 1) rfl)) rfl dX11_book_178 rfl ?_
    refine r_goto dX11_book_181 (tgt := 197) (by decide) ?_
    refine r_sub [2, 3] (lv' := [(3, (0, l3)), (4, (0, l4))]) rfl ?_
    exact oX11_book_b197 (K := K) (fun r z => k0 r z) hr hk
set_option maxRecDepth 100000 in
set_option maxHeartbeats 4000000 in
theorem oX11_book_s63 {h0 : hH} {a0 a1 l3 l4 l5 : Int} {K : (hH × Int × Int × Int) ⊕ (Int × hH) → Prop} (k0 : ∀ r, K (.inr (r)) → x = (some (0, r.1), r.2)) (k1 : ∀ (h : hH) (l3 : Int) (l4 : Int) (l5 : Int), K (.inl (h, l3, l4, l5)) → Wq p l e R s m args below meth c D G A H0 true n0 M_X11_book x 0 0 63 [(0, (21, a0)), (1, (0, a1)), (3, (0, l3)), (4, (0, l4)), (5, (0, l5))] [] h) {r : (hH × Int × Int × Int) ⊕ (Int × hH)} (hr : fX11_book_s63 h0 a0 a1 (h, l3, l4, l5) = some r) (hk : K r) : Wq p l e R s m args below meth c D G A H0 true n0 M_X11_book x 0 0 63 [(0, (21, a0)), (1, (0, a1)), (3, (0, l3)), (4, (0, l4)), (5, (0, l5))] [] h := by
  unfold fX11_book_s63 at hr
  refine r_iload dX11_book_63 4 rfl (Or.inl rfl) ?_
  refine r_aload_n dX11_book_65 rfl 0 rfl (nl rfl) ?_
  refine r_get 11 6 (o := a0) (w := (12, h a0 6)) (T := TX11) (ref := "FollowingRefs") rfl (by decide) rfl (by decide) inlX11 (wsl_2 _ (List.mem_of_getElem? (i := 16) rfl)) rfl dX11_book_66 rfl ?_
  refine r_get 2 2 (o := h a0 6) (w := (0, h (h a0 6) 2)) (T := TX2) (ref := "FollowingRefs$Lines") rfl (by decide) rfl (by decide) inlX2 (wsl_65 _ (List.mem_of_getElem? (i := 6) rfl)) rfl dX11_book_69 rfl ?_
  refine r_icmp_ge dX11_book_72 (tgt := 99) (by decide) (fun hc => ?_) (fun hc => ?_)
  · have hr := ifn hr hc
    refine r_sub [0, 1, 2, 3] (lv' := [(0, (21, a0)), (1, (0, a1)), (3, (0, l3)), (4, (0, l4))]) rfl ?_
    obtain ⟨r9, hr9, rfl⟩ := mpp hr
    exact oX11_book_b99 (K := fun z9 => K (.inr (z9))) (fun r z => k0 r z) hr9 hk
  · have hr := ifp hr hc
    refine r_iload_n dX11_book_75 rfl 2 rfl (Or.inl rfl) ?_
    refine r_if_ne dX11_book_76 (tgt := 99) (by decide) (fun hc => ?_) (fun hc => ?_)
    · have hr := ifn hr hc
      refine r_sub [0, 1, 2, 3] (lv' := [(0, (21, a0)), (1, (0, a1)), (3, (0, l3)), (4, (0, l4))]) rfl ?_
      obtain ⟨r9, hr9, rfl⟩ := mpp hr
      exact oX11_book_b99 (K := fun z9 => K (.inr (z9))) (fun r z => k0 r z) hr9 hk
    · have hr := ifp hr hc
      refine r_aload_n dX11_book_79 rfl 0 rfl (nl rfl) ?_
      refine r_iload dX11_book_80 4 rfl (Or.inl rfl) ?_
      obtain ⟨q82, hg82, hr⟩ := bnd hr
      refine k_V (ci := 11) (o := a0) (T := TX11) (as := [(0, l5)]) (rest := []) (X := (some (0, q82.1), q82.2)) (oX11_runLine hg82) gX11_runLine rfl (by decide) rfl (wsl_64 _ (List.mem_of_getElem? (i := 3) rfl)) rfl dX11_book_82 rfl ?_
      refine r_istore_n dX11_book_85 rfl (Or.inl rfl) (by decide) (lv' := [(3, (0, q82.1)), (0, (21, a0)), (1, (0, a1)), (4, (0, l4)), (5, (0, l5))]) rfl ?_
      refine r_iload_n dX11_book_86 rfl 0 rfl (Or.inl rfl) ?_
      refine r_if_ne dX11_book_87 (tgt := 93) (by decide) (fun hc => ?_) (fun hc => ?_)
      · have hr := ifn hr hc
        refine r_iinc (k := 4) (v := l5) dX11_book_93 rfl (by decide) (lv' := [(5, (0, w32 (l5 + 1))), (3, (0, q82.1)), (0, (21, a0)), (1, (0, a1)), (4, (0, l4))]) rfl ?_
        refine r_goto dX11_book_96 (tgt := 63) (by decide) ?_
        refine r_sub [2, 3, 1, 4, 0] (lv' := [(0, (21, a0)), (1, (0, a1)), (3, (0, q82.1)), (4, (0, l4)), (5, (0, w32 (l5 + 1)))]) rfl ?_
        obtain rfl := Option.some.inj hr
        exact k1 _ _ _ _ hk
      · have hr := ifp hr hc
        refine r_iinc (k := 3) (v := l4) dX11_book_90 rfl (by decide) (lv' := [(4, (0, w32 (l4 + 1))), (3, (0, q82.1)), (0, (21, a0)), (1, (0, a1)), (5, (0, l5))]) rfl ?_
        refine r_iinc (k := 4) (v := l5) dX11_book_93 rfl (by decide) (lv' := [(5, (0, w32 (l5 + 1))), (4, (0, w32 (l4 + 1))), (3, (0, q82.1)), (0, (21, a0)), (1, (0, a1))]) rfl ?_
        refine r_goto dX11_book_96 (tgt := 63) (by decide) ?_
        refine r_sub [3, 4, 2, 1, 0] (lv' := [(0, (21, a0)), (1, (0, a1)), (3, (0, q82.1)), (4, (0, w32 (l4 + 1))), (5, (0, w32 (l5 + 1)))]) rfl ?_
        obtain rfl := Option.some.inj hr
        exact k1 _ _ _ _ hk
set_option maxRecDepth 100000 in
set_option maxHeartbeats 4000000 in
theorem oX11_book_b13 {a0 a1 : Int} {K : Int × hH → Prop} (k0 : ∀ r, K (r) → x = (some (0, r.1), r.2)) {r : Int × hH} (hr : fX11_book_b13 h a0 a1 = some r) (hk : K r) : Wq p l e R s m args below meth c D G A H0 true n0 M_X11_book x 0 0 13 [(0, (21, a0)), (1, (0, a1))] [] h := by
  unfold fX11_book_b13 at hr
  refine r_aload_n dX11_book_13 rfl 0 rfl (nl rfl) ?_
  refine r_get 11 6 (o := a0) (w := (12, h a0 6)) (T := TX11) (ref := "FollowingRefs") rfl (by decide) rfl (by decide) inlX11 (wsl_2 _ (List.mem_of_getElem? (i := 16) rfl)) rfl dX11_book_14 rfl ?_
  obtain ⟨q17, hg17, hr⟩ := bnd hr
  refine k_V (ci := 2) (o := h a0 6) (T := TX2) (as := []) (rest := []) (X := (some (2, q17.1), q17.2)) (oX2_readBook hg17) gX2_readBook rfl (by decide) rfl (wsl_65 _ (List.mem_of_getElem? (i := 7) rfl)) rfl dX11_book_17 rfl ?_
  refine r_istore_n dX11_book_20 rfl (Or.inr rfl) (by decide) (lv' := [(2, (2, q17.1)), (0, (21, a0)), (1, (0, a1))]) rfl ?_
  refine r_aload_n dX11_book_21 rfl 1 rfl (nl rfl) ?_
  refine r_get 11 0 (o := a0) (w := (19, q17.2 a0 0)) (T := TX11) (ref := "FollowingRefs") rfl (by decide) rfl (by decide) inlX11 (wsl_1 _ (List.mem_of_getElem? (i := 16) rfl)) rfl dX11_book_22 rfl ?_
  refine r_iconst dX11_book_25 (by decide) ?_
  obtain ⟨h26, hg26, hr⟩ := bnd hr
  refine r_put' 9 1 (t := 0) (ref := "FollowingRefs$Text") hg26 rfl tyX9 tyX9_ok nmX9 rfl (by decide) rfl (by decide) inlX9 (wsl_10 _ (List.mem_of_getElem? (i := 1) rfl)) rfl rfl (by decide +kernel) (by decide) rfl (Or.inl ⟨rfl, rfl⟩) dX11_book_26 ?_
  refine r_iload_n dX11_book_29 rfl 0 rfl (Or.inr rfl) ?_
  refine r_scast 0 (v := (2, q17.1)) (w := (0, q17.1)) rfl zc hTz (st' := [(0, q17.1)]) rfl ?_
  refine r_if_ne dX11_book_30 (tgt := 44) (by decide) (fun hc => ?_) (fun hc => ?_)
  · have hr := ifn hr hc
    refine r_aload_n dX11_book_44 rfl 1 rfl (nl rfl) ?_
    refine r_get 11 9 (o := a0) (w := (18, h26 a0 9)) (T := TX11) (ref := "FollowingRefs") rfl (by decide) rfl (by decide) inlX11 (wsl_2 _ (List.mem_of_getElem? (i := 22) rfl)) rfl dX11_book_45 rfl ?_
    refine r_aload_n dX11_book_48 rfl 1 rfl (nl rfl) ?_
    refine r_get 11 2 (o := a0) (w := (18, h26 a0 2)) (T := TX11) (ref := "FollowingRefs") rfl (by decide) rfl (by decide) inlX11 (wsl_2 _ (List.mem_of_getElem? (i := 0) rfl)) rfl dX11_book_49 rfl ?_
    obtain ⟨h52, hg52, hr⟩ := bnd hr
    refine k_V (ci := 8) (o := h26 a0 9) (T := TX8) (as := [(18, h26 a0 2)]) (rest := []) (X := (none, h52)) (oX8_copyFrom hg52) gX8_copyFrom rfl (by decide) rfl (wsl_40 _ (List.mem_of_getElem? (i := 1) rfl)) rfl dX11_book_52 rfl ?_
    refine r_iconst dX11_book_55 (by decide) ?_
    refine r_istore_n dX11_book_56 rfl (Or.inl rfl) (by decide) (lv' := [(3, (0, 0)), (2, (2, q17.1)), (0, (21, a0)), (1, (0, a1))]) rfl ?_
    refine r_iconst dX11_book_57 (by decide) ?_
    refine r_istore dX11_book_58 (Or.inl rfl) (by decide) (lv' := [(4, (0, 0)), (3, (0, 0)), (2, (2, q17.1)), (0, (21, a0)), (1, (0, a1))]) rfl ?_
    refine r_iconst dX11_book_60 (by decide) ?_
    refine r_istore dX11_book_61 (Or.inl rfl) (by decide) (lv' := [(5, (0, 0)), (4, (0, 0)), (3, (0, 0)), (2, (2, q17.1)), (0, (21, a0)), (1, (0, a1))]) rfl ?_
    refine r_sub [4, 5, 2, 1, 0] (lv' := [(0, (21, a0)), (1, (0, a1)), (3, (0, 0)), (4, (0, 0)), (5, (0, 0))]) rfl ?_
    exact lp_ok (w := fun (q : hH × Int × Int × Int) => Wq p l e R s m args below meth c D G A H0 true n0 M_X11_book x 0 0 63 [(0, (21, a0)), (1, (0, a1)), (3, (0, q.2.1)), (4, (0, q.2.2.1)), (5, (0, q.2.2.2))] [] (q.1)) (K := K) (fun ⟨q0, q1, q2, q3⟩ r h1 h2 => oX11_book_s63 (K := Sum.elim (fun (q : hH × Int × Int × Int) => Wq p l e R s m args below meth c D G A H0 true n0 M_X11_book x 0 0 63 [(0, (21, a0)), (1, (0, a1)), (3, (0, q.2.1)), (4, (0, q.2.2.1)), (5, (0, q.2.2.2))] [] (q.1)) (K)) (fun r z => k0 r z) (fun _ _ _ _ z => z) h1 h2) hr hk
  · have hr := ifp hr hc
    refine r_bipush dX11_book_33 (by decide) (by decide) ?_
    refine r_aload_n dX11_book_35 rfl 1 rfl (nl rfl) ?_
    refine r_get 11 0 (o := a0) (w := (19, h26 a0 0)) (T := TX11) (ref := "FollowingRefs") rfl (by decide) rfl (by decide) inlX11 (wsl_1 _ (List.mem_of_getElem? (i := 16) rfl)) rfl dX11_book_36 rfl ?_
    refine r_get 9 9 (o := h26 a0 0) (w := (0, h26 (h26 a0 0) 9)) (T := TX9) (ref := "FollowingRefs$Text") rfl (by decide) rfl (by decide) inlX9 (wsl_11 _ (List.mem_of_getElem? (i := 5) rfl)) rfl dX11_book_39 rfl ?_
    refine r_isub dX11_book_42 ?_
    obtain rfl := Option.some.inj hr
    exact r_ret dX11_book_43 rfl (Or.inl ⟨rfl, rfl⟩) (k0 _ hk) ⟨rfl, rfl⟩
set_option maxRecDepth 100000 in
set_option maxHeartbeats 4000000 in
theorem oX11_book_b0 {a0 a1 : Int} {K : Int × hH → Prop} (k0 : ∀ r, K (r) → x = (some (0, r.1), r.2)) {r : Int × hH} (hr : fX11_book h a0 a1 = some r) (hk : K r) : Wq p l e R s m args below meth c D G A H0 true n0 M_X11_book x 0 0 0 [(0, (21, a0)), (1, (0, a1))] [] h := by
  unfold fX11_book at hr
  refine r_iload_n dX11_book_0 rfl 1 rfl (Or.inl rfl) ?_
  refine r_if_eq dX11_book_1 (tgt := 13) (by decide) (fun hc => ?_) (fun hc => ?_)
  · have hr := ifp hr hc
    exact oX11_book_b13 (K := K) (fun r z => k0 r z) hr hk
  · have hr := ifn hr hc
    refine r_iload_n dX11_book_4 rfl 1 rfl (Or.inl rfl) ?_
    refine r_iconst dX11_book_5 (by decide) ?_
    refine r_icmp_eq dX11_book_6 (tgt := 13) (by decide) (fun hc => ?_) (fun hc => ?_)
    · have hr := ifp hr hc
      exact oX11_book_b13 (K := K) (fun r z => k0 r z) hr hk
    · have hr := ifn hr hc
      refine r_sipush dX11_book_9 (by decide) (by decide) ?_
      obtain rfl := Option.some.inj hr
      exact r_ret dX11_book_12 rfl (Or.inl ⟨rfl, rfl⟩) (k0 _ hk) ⟨rfl, rfl⟩
end M_X11_book
theorem oX11_book {l : Launch} {D : va_G} {G : gG} {h : hH} {a0 a1 : Int} {r : Int × hH} (hr : fX11_book h a0 a1 = some r) : Ctr l D G true yX11_book M_X11_book [(21, a0), (0, a1)] h (some (0, r.1), r.2) :=
  Ctr_of (by decide) rfl (fun z => by cases z) (nl rfl) (fun {p e R s m args below meth c A H0} => by
    exact oX11_book_b0 (K := fun z9 => z9 = r) (fun r9 z => by rw [z]) hr rfl)
/-! X11_told -/
theorem dX11_told_0 : decode cX11_told 0 = .ok (.aload_n 0, 1) := by decide +kernel
theorem dX11_told_1 : decode cX11_told 1 = .ok (.getfield 87, 3) := by decide +kernel
theorem dX11_told_4 : decode cX11_told 4 = .ok (.iload_n 1, 1) := by decide +kernel
theorem dX11_told_5 : decode cX11_told 5 = .ok (.invokestatic 186, 3) := by decide +kernel
theorem dX11_told_8 : decode cX11_told 8 = .ok (.ireturn, 1) := by decide +kernel
abbrev M_X11_told : mM := (cX11_told, 2, RX11, some .int, false, 1, 21, 0, 0)
theorem gX11_told : cI yX11_told M_X11_told 1 := ⟨(wsl_66 _ (List.mem_of_getElem? (i := 4) rfl)), (wsl_66 _ (List.mem_of_getElem? (i := 5) rfl)), (wsl_1 _ (List.mem_of_getElem? (i := 2) rfl)), (wsl_66 _ (List.mem_of_getElem? (i := 6) rfl)), by decide +kernel⟩
noncomputable def fX11_told (h : hH) (a0 a1 : Int) : Option (Int) :=
  (fX11_at h (h a0 13) a1).bind fun r5 =>
  some r5
section M_X11_told
variable {p : Program} {l : Launch} {e : Env} {R : Room} {s : State} {m : MethodId} {args : Array Value} {below : List Frame} {meth : Method} {c : Code} {D : va_G} {G : gG} {A : Nat → Prop} {H0 : Heap} {n0 : Int} {x : Option vV × hH} {h : hH}
set_option maxRecDepth 100000 in
set_option maxHeartbeats 4000000 in
theorem oX11_told_b0 {a0 a1 : Int} {K : Int → Prop} (k0 : ∀ r, K (r) → x = (some (0, r), h)) {r : Int} (hr : fX11_told h a0 a1 = some r) (hk : K r) : Wq p l e R s m args below meth c D G A H0 true n0 M_X11_told x 0 0 0 [(0, (21, a0)), (1, (0, a1))] [] h := by
  unfold fX11_told at hr
  refine r_aload_n dX11_told_0 rfl 0 rfl (nl rfl) ?_
  refine r_get 11 13 (o := a0) (w := (50, h a0 13)) (T := TX11) (ref := "FollowingRefs") rfl (by decide) rfl (by decide) inlX11 (wsl_3 _ (List.mem_of_getElem? (i := 3) rfl)) rfl dX11_told_1 rfl ?_
  refine r_iload_n dX11_told_4 rfl 1 rfl (Or.inl rfl) ?_
  obtain ⟨r5, hg5, hr⟩ := bnd hr
  refine k_S (as := [(50, h a0 13), (0, a1)]) (rest := []) (X := (some (0, r5), h)) (oX11_at hg5) gX11_at rfl (wsl_48 _ (List.mem_of_getElem? (i := 4) rfl)) rfl dX11_told_5 rfl ?_
  obtain rfl := Option.some.inj hr
  exact r_ret dX11_told_8 rfl (Or.inl ⟨rfl, rfl⟩) (k0 _ hk) ⟨rfl, rfl⟩
end M_X11_told
theorem oX11_told {l : Launch} {D : va_G} {G : gG} {h : hH} {a0 a1 : Int} {r : Int} (hr : fX11_told h a0 a1 = some r) : Ctr l D G true yX11_told M_X11_told [(21, a0), (0, a1)] h (some (0, r), h) :=
  Ctr_of (by decide) rfl (fun z => by cases z) (nl rfl) (fun {p e R s m args below meth c A H0} => by
    exact oX11_told_b0 (K := fun z9 => z9 = r) (fun r9 z => by rw [z]) hr rfl)
/-! X11_said -/
theorem dX11_said_0 : decode cX11_said 0 = .ok (.aload_n 0, 1) := by decide +kernel
theorem dX11_said_1 : decode cX11_said 1 = .ok (.getfield 33, 3) := by decide +kernel
theorem dX11_said_4 : decode cX11_said 4 = .ok (.getfield 379, 3) := by decide +kernel
theorem dX11_said_7 : decode cX11_said 7 = .ok (.ifCond .eq 8, 3) := by decide +kernel
theorem dX11_said_10 : decode cX11_said 10 = .ok (.iload_n 1, 1) := by decide +kernel
theorem dX11_said_11 : decode cX11_said 11 = .ok (.iconst (-1), 1) := by decide +kernel
theorem dX11_said_12 : decode cX11_said 12 = .ok (.if_icmp .ge 5, 3) := by decide +kernel
theorem dX11_said_15 : decode cX11_said 15 = .ok (.iconst (-1), 1) := by decide +kernel
theorem dX11_said_16 : decode cX11_said 16 = .ok (.ireturn, 1) := by decide +kernel
theorem dX11_said_17 : decode cX11_said 17 = .ok (.aload_n 0, 1) := by decide +kernel
theorem dX11_said_18 : decode cX11_said 18 = .ok (.getfield 71, 3) := by decide +kernel
theorem dX11_said_21 : decode cX11_said 21 = .ok (.getfield 193, 3) := by decide +kernel
theorem dX11_said_24 : decode cX11_said 24 = .ok (.aload_n 0, 1) := by decide +kernel
theorem dX11_said_25 : decode cX11_said 25 = .ok (.getfield 19, 3) := by decide +kernel
theorem dX11_said_28 : decode cX11_said 28 = .ok (.aload_n 0, 1) := by decide +kernel
theorem dX11_said_29 : decode cX11_said 29 = .ok (.getfield 26, 3) := by decide +kernel
theorem dX11_said_32 : decode cX11_said 32 = .ok (.getfield 152, 3) := by decide +kernel
theorem dX11_said_35 : decode cX11_said 35 = .ok (.iconst 1, 1) := by decide +kernel
theorem dX11_said_36 : decode cX11_said 36 = .ok (.invokevirtual 210, 3) := by decide +kernel
theorem dX11_said_39 : decode cX11_said 39 = .ok (.pop, 1) := by decide +kernel
theorem dX11_said_40 : decode cX11_said 40 = .ok (.iconst 0, 1) := by decide +kernel
theorem dX11_said_41 : decode cX11_said 41 = .ok (.istore_n 2, 1) := by decide +kernel
theorem dX11_said_42 : decode cX11_said 42 = .ok (.iconst 0, 1) := by decide +kernel
theorem dX11_said_43 : decode cX11_said 43 = .ok (.istore_n 3, 1) := by decide +kernel
theorem dX11_said_44 : decode cX11_said 44 = .ok (.iload_n 3, 1) := by decide +kernel
theorem dX11_said_45 : decode cX11_said 45 = .ok (.aload_n 0, 1) := by decide +kernel
theorem dX11_said_46 : decode cX11_said 46 = .ok (.getfield 26, 3) := by decide +kernel
theorem dX11_said_49 : decode cX11_said 49 = .ok (.getfield 152, 3) := by decide +kernel
theorem dX11_said_52 : decode cX11_said 52 = .ok (.getfield 222, 3) := by decide +kernel
theorem dX11_said_55 : decode cX11_said 55 = .ok (.if_icmp .ge 58, 3) := by decide +kernel
theorem dX11_said_58 : decode cX11_said 58 = .ok (.aload_n 0, 1) := by decide +kernel
theorem dX11_said_59 : decode cX11_said 59 = .ok (.getfield 33, 3) := by decide +kernel
theorem dX11_said_62 : decode cX11_said 62 = .ok (.aload_n 0, 1) := by decide +kernel
theorem dX11_said_63 : decode cX11_said 63 = .ok (.getfield 19, 3) := by decide +kernel
theorem dX11_said_66 : decode cX11_said 66 = .ok (.aload_n 0, 1) := by decide +kernel
theorem dX11_said_67 : decode cX11_said 67 = .ok (.getfield 26, 3) := by decide +kernel
theorem dX11_said_70 : decode cX11_said 70 = .ok (.getfield 152, 3) := by decide +kernel
theorem dX11_said_73 : decode cX11_said 73 = .ok (.iload_n 3, 1) := by decide +kernel
theorem dX11_said_74 : decode cX11_said 74 = .ok (.aload_n 0, 1) := by decide +kernel
theorem dX11_said_75 : decode cX11_said 75 = .ok (.getfield 71, 3) := by decide +kernel
theorem dX11_said_78 : decode cX11_said 78 = .ok (.getfield 193, 3) := by decide +kernel
theorem dX11_said_81 : decode cX11_said 81 = .ok (.invokevirtual 382, 3) := by decide +kernel
theorem dX11_said_84 : decode cX11_said 84 = .ok (.ifCond .eq 23, 3) := by decide +kernel
theorem dX11_said_87 : decode cX11_said 87 = .ok (.iload_n 2, 1) := by decide +kernel
theorem dX11_said_88 : decode cX11_said 88 = .ok (.iload_n 1, 1) := by decide +kernel
theorem dX11_said_89 : decode cX11_said 89 = .ok (.if_icmp .ne 15, 3) := by decide +kernel
theorem dX11_said_92 : decode cX11_said 92 = .ok (.aload_n 0, 1) := by decide +kernel
theorem dX11_said_93 : decode cX11_said 93 = .ok (.getfield 26, 3) := by decide +kernel
theorem dX11_said_96 : decode cX11_said 96 = .ok (.getfield 152, 3) := by decide +kernel
theorem dX11_said_99 : decode cX11_said 99 = .ok (.iload_n 3, 1) := by decide +kernel
theorem dX11_said_100 : decode cX11_said 100 = .ok (.invokevirtual 260, 3) := by decide +kernel
theorem dX11_said_103 : decode cX11_said 103 = .ok (.ireturn, 1) := by decide +kernel
theorem dX11_said_104 : decode cX11_said 104 = .ok (.iinc 2 1, 3) := by decide +kernel
theorem dX11_said_107 : decode cX11_said 107 = .ok (.iinc 3 1, 3) := by decide +kernel
theorem dX11_said_110 : decode cX11_said 110 = .ok (.goto (-66), 3) := by decide +kernel
theorem dX11_said_113 : decode cX11_said 113 = .ok (.iload_n 1, 1) := by decide +kernel
theorem dX11_said_114 : decode cX11_said 114 = .ok (.iconst (-1), 1) := by decide +kernel
theorem dX11_said_115 : decode cX11_said 115 = .ok (.if_icmp .ne 7, 3) := by decide +kernel
theorem dX11_said_118 : decode cX11_said 118 = .ok (.iload_n 2, 1) := by decide +kernel
theorem dX11_said_119 : decode cX11_said 119 = .ok (.goto 4, 3) := by decide +kernel
theorem dX11_said_122 : decode cX11_said 122 = .ok (.iconst (-1), 1) := by decide +kernel
theorem dX11_said_123 : decode cX11_said 123 = .ok (.ireturn, 1) := by decide +kernel
abbrev M_X11_said : mM := (cX11_said, 4, RX11, some .int, false, 6, 156, 0, 0)
theorem gX11_said : cI yX11_said M_X11_said 1 := ⟨(wsl_70 _ (List.mem_of_getElem? (i := 8) rfl)), (wsl_70 _ (List.mem_of_getElem? (i := 9) rfl)), (wsl_1 _ (List.mem_of_getElem? (i := 2) rfl)), (wsl_70 _ (List.mem_of_getElem? (i := 10) rfl)), by decide +kernel⟩
noncomputable def fX11_said_s44 (h : hH) (a0 a1 : Int) : Int × Int → Option ((Int × Int) ⊕ (Int × hH)) := fun (l2, l3) =>
  if l3 < h (h (h a0 2) 0) 0 then
    (fX6_holds h (h a0 3) (h a0 1) (h (h a0 2) 0) l3 (h (h a0 8) 3)).bind fun r81 =>
    if r81 = 0 then
      some (.inl (l2, w32 (l3 + 1)))
    else
      if l2 = a1 then
        (fX3_numberAt h (h (h a0 2) 0) l3).bind fun r100 =>
        some (.inr ((r100, h)))
      else
        some (.inl (w32 (l2 + 1), w32 (l3 + 1)))
  else
    if a1 = -1 then
      some (.inr ((l2, h)))
    else
      some (.inr ((-1, h)))
noncomputable def fX11_said (h : hH) (a0 a1 : Int) : Option (Int × hH) :=
  if h (h a0 3) 0 = 0 then
    some (-1, h)
  else
    if a1 < -1 then
      some (-1, h)
    else
      (fX10_scan h (h (h a0 8) 3) (h a0 1) (h (h a0 2) 0) 1).bind fun q36 =>
      lpO (fX11_said_s44 q36.2 a0 a1) (0, 0)
section M_X11_said
variable {p : Program} {l : Launch} {e : Env} {R : Room} {s : State} {m : MethodId} {args : Array Value} {below : List Frame} {meth : Method} {c : Code} {D : va_G} {G : gG} {A : Nat → Prop} {H0 : Heap} {n0 : Int} {x : Option vV × hH} {h : hH}
set_option maxRecDepth 100000 in
set_option maxHeartbeats 4000000 in
theorem oX11_said_s44 {a0 a1 l2 l3 : Int} {K : (Int × Int) ⊕ (Int × hH) → Prop} (k0 : ∀ r, K (.inr (r)) → x = (some (0, r.1), r.2)) (k1 : ∀ (l2 : Int) (l3 : Int), K (.inl (l2, l3)) → Wq p l e R s m args below meth c D G A H0 true n0 M_X11_said x 0 0 44 [(0, (21, a0)), (1, (0, a1)), (2, (0, l2)), (3, (0, l3))] [] h) {r : (Int × Int) ⊕ (Int × hH)} (hr : fX11_said_s44 h a0 a1 (l2, l3) = some r) (hk : K r) : Wq p l e R s m args below meth c D G A H0 true n0 M_X11_said x 0 0 44 [(0, (21, a0)), (1, (0, a1)), (2, (0, l2)), (3, (0, l3))] [] h := by
  unfold fX11_said_s44 at hr
  refine r_iload_n dX11_said_44 rfl 3 rfl (Or.inl rfl) ?_
  refine r_aload_n dX11_said_45 rfl 0 rfl (nl rfl) ?_
  refine r_get 11 2 (o := a0) (w := (18, h a0 2)) (T := TX11) (ref := "FollowingRefs") rfl (by decide) rfl (by decide) inlX11 (wsl_2 _ (List.mem_of_getElem? (i := 0) rfl)) rfl dX11_said_46 rfl ?_
  refine r_get 8 0 (o := h a0 2) (w := (13, h (h a0 2) 0)) (T := TX8) (ref := "FollowingRefs$State") rfl (by decide) rfl (by decide) inlX8 (wsl_29 _ (List.mem_of_getElem? (i := 9) rfl)) rfl dX11_said_49 rfl ?_
  refine r_get 3 0 (o := h (h a0 2) 0) (w := (0, h (h (h a0 2) 0) 0)) (T := TX3) (ref := "FollowingRefs$Rows") rfl (by decide) rfl (by decide) inlX3 (wsl_52 _ (List.mem_of_getElem? (i := 8) rfl)) rfl dX11_said_52 rfl ?_
  refine r_icmp_ge dX11_said_55 (tgt := 113) (by decide) (fun hc => ?_) (fun hc => ?_)
  · have hr := ifn hr hc
    refine r_iload_n dX11_said_113 rfl 1 rfl (Or.inl rfl) ?_
    refine r_iconst dX11_said_114 (by decide) ?_
    refine r_icmp_ne dX11_said_115 (tgt := 122) (by decide) (fun hc => ?_) (fun hc => ?_)
    · have hr := ifn hr hc
      refine r_iconst dX11_said_122 (by decide) ?_
      obtain rfl := Option.some.inj hr
      exact r_ret dX11_said_123 rfl (Or.inl ⟨rfl, rfl⟩) (k0 _ hk) ⟨rfl, rfl⟩
    · have hr := ifp hr hc
      refine r_iload_n dX11_said_118 rfl 2 rfl (Or.inl rfl) ?_
      refine r_goto dX11_said_119 (tgt := 123) (by decide) ?_
      obtain rfl := Option.some.inj hr
      exact r_ret dX11_said_123 rfl (Or.inl ⟨rfl, rfl⟩) (k0 _ hk) ⟨rfl, rfl⟩
  · have hr := ifp hr hc
    refine r_aload_n dX11_said_58 rfl 0 rfl (nl rfl) ?_
    refine r_get 11 3 (o := a0) (w := (16, h a0 3)) (T := TX11) (ref := "FollowingRefs") rfl (by decide) rfl (by decide) inlX11 (wsl_2 _ (List.mem_of_getElem? (i := 4) rfl)) rfl dX11_said_59 rfl ?_
    refine r_aload_n dX11_said_62 rfl 0 rfl (nl rfl) ?_
    refine r_get 11 1 (o := a0) (w := (14, h a0 1)) (T := TX11) (ref := "FollowingRefs") rfl (by decide) rfl (by decide) inlX11 (wsl_1 _ (List.mem_of_getElem? (i := 20) rfl)) rfl dX11_said_63 rfl ?_
    refine r_aload_n dX11_said_66 rfl 0 rfl (nl rfl) ?_
    refine r_get 11 2 (o := a0) (w := (18, h a0 2)) (T := TX11) (ref := "FollowingRefs") rfl (by decide) rfl (by decide) inlX11 (wsl_2 _ (List.mem_of_getElem? (i := 0) rfl)) rfl dX11_said_67 rfl ?_
    refine r_get 8 0 (o := h a0 2) (w := (13, h (h a0 2) 0)) (T := TX8) (ref := "FollowingRefs$State") rfl (by decide) rfl (by decide) inlX8 (wsl_29 _ (List.mem_of_getElem? (i := 9) rfl)) rfl dX11_said_70 rfl ?_
    refine r_iload_n dX11_said_73 rfl 3 rfl (Or.inl rfl) ?_
    refine r_aload_n dX11_said_74 rfl 0 rfl (nl rfl) ?_
    refine r_get 11 8 (o := a0) (w := (11, h a0 8)) (T := TX11) (ref := "FollowingRefs") rfl (by decide) rfl (by decide) inlX11 (wsl_2 _ (List.mem_of_getElem? (i := 21) rfl)) rfl dX11_said_75 rfl ?_
    refine r_get 1 3 (o := h a0 8) (w := (20, h (h a0 8) 3)) (T := TX1) (ref := "FollowingRefs$Judge") rfl (by decide) rfl (by decide) inlX1 (wsl_48 _ (List.mem_of_getElem? (i := 22) rfl)) rfl dX11_said_78 rfl ?_
    obtain ⟨r81, hg81, hr⟩ := bnd hr
    refine k_V (ci := 6) (o := h a0 3) (T := TX6) (as := [(14, h a0 1), (13, h (h a0 2) 0), (0, l3), (20, h (h a0 8) 3)]) (rest := []) (X := (some (2, r81), h)) (oX6_holds hg81) gX6_holds rfl (by decide) rfl (wsl_70 _ (List.mem_of_getElem? (i := 12) rfl)) rfl dX11_said_81 rfl ?_
    refine r_scast 0 (v := (2, r81)) (w := (0, r81)) rfl zc hTz (st' := [(0, r81)]) rfl ?_
    refine r_if_eq dX11_said_84 (tgt := 107) (by decide) (fun hc => ?_) (fun hc => ?_)
    · have hr := ifp hr hc
      refine r_iinc (k := 3) (v := l3) dX11_said_107 rfl (by decide) (lv' := [(3, (0, w32 (l3 + 1))), (0, (21, a0)), (1, (0, a1)), (2, (0, l2))]) rfl ?_
      refine r_goto dX11_said_110 (tgt := 44) (by decide) ?_
      refine r_sub [1, 2, 3, 0] (lv' := [(0, (21, a0)), (1, (0, a1)), (2, (0, l2)), (3, (0, w32 (l3 + 1)))]) rfl ?_
      obtain rfl := Option.some.inj hr
      exact k1 _ _ hk
    · have hr := ifn hr hc
      refine r_iload_n dX11_said_87 rfl 2 rfl (Or.inl rfl) ?_
      refine r_iload_n dX11_said_88 rfl 1 rfl (Or.inl rfl) ?_
      refine r_icmp_ne dX11_said_89 (tgt := 104) (by decide) (fun hc => ?_) (fun hc => ?_)
      · have hr := ifn hr hc
        refine r_iinc (k := 2) (v := l2) dX11_said_104 rfl (by decide) (lv' := [(2, (0, w32 (l2 + 1))), (0, (21, a0)), (1, (0, a1)), (3, (0, l3))]) rfl ?_
        refine r_iinc (k := 3) (v := l3) dX11_said_107 rfl (by decide) (lv' := [(3, (0, w32 (l3 + 1))), (2, (0, w32 (l2 + 1))), (0, (21, a0)), (1, (0, a1))]) rfl ?_
        refine r_goto dX11_said_110 (tgt := 44) (by decide) ?_
        refine r_sub [2, 3, 1, 0] (lv' := [(0, (21, a0)), (1, (0, a1)), (2, (0, w32 (l2 + 1))), (3, (0, w32 (l3 + 1)))]) rfl ?_
        obtain rfl := Option.some.inj hr
        exact k1 _ _ hk
      · have hr := ifp hr hc
        refine r_aload_n dX11_said_92 rfl 0 rfl (nl rfl) ?_
        refine r_get 11 2 (o := a0) (w := (18, h a0 2)) (T := TX11) (ref := "FollowingRefs") rfl (by decide) rfl (by decide) inlX11 (wsl_2 _ (List.mem_of_getElem? (i := 0) rfl)) rfl dX11_said_93 rfl ?_
        refine r_get 8 0 (o := h a0 2) (w := (13, h (h a0 2) 0)) (T := TX8) (ref := "FollowingRefs$State") rfl (by decide) rfl (by decide) inlX8 (wsl_29 _ (List.mem_of_getElem? (i := 9) rfl)) rfl dX11_said_96 rfl ?_
        refine r_iload_n dX11_said_99 rfl 3 rfl (Or.inl rfl) ?_
        obtain ⟨r100, hg100, hr⟩ := bnd hr
        refine k_V (ci := 3) (o := h (h a0 2) 0) (T := TX3) (as := [(0, l3)]) (rest := []) (X := (some (0, r100), h)) (oX3_numberAt hg100) gX3_numberAt rfl (by decide) rfl (wsl_56 _ (List.mem_of_getElem? (i := 3) rfl)) rfl dX11_said_100 rfl ?_
        obtain rfl := Option.some.inj hr
        exact r_ret dX11_said_103 rfl (Or.inl ⟨rfl, rfl⟩) (k0 _ hk) ⟨rfl, rfl⟩
set_option maxRecDepth 100000 in
set_option maxHeartbeats 4000000 in
theorem oX11_said_b0 {a0 a1 : Int} {K : Int × hH → Prop} (k0 : ∀ r, K (r) → x = (some (0, r.1), r.2)) {r : Int × hH} (hr : fX11_said h a0 a1 = some r) (hk : K r) : Wq p l e R s m args below meth c D G A H0 true n0 M_X11_said x 0 0 0 [(0, (21, a0)), (1, (0, a1))] [] h := by
  unfold fX11_said at hr
  refine r_aload_n dX11_said_0 rfl 0 rfl (nl rfl) ?_
  refine r_get 11 3 (o := a0) (w := (16, h a0 3)) (T := TX11) (ref := "FollowingRefs") rfl (by decide) rfl (by decide) inlX11 (wsl_2 _ (List.mem_of_getElem? (i := 4) rfl)) rfl dX11_said_1 rfl ?_
  refine r_get 6 0 (o := h a0 3) (w := (2, h (h a0 3) 0)) (T := TX6) (ref := "FollowingRefs$Sentence") rfl (by decide) rfl (by decide) inlX6 (wsl_70 _ (List.mem_of_getElem? (i := 11) rfl)) rfl dX11_said_4 rfl ?_
  refine r_scast 0 (v := (2, h (h a0 3) 0)) (w := (0, h (h a0 3) 0)) rfl zc hTz (st' := [(0, h (h a0 3) 0)]) rfl ?_
  refine r_if_eq dX11_said_7 (tgt := 15) (by decide) (fun hc => ?_) (fun hc => ?_)
  · have hr := ifp hr hc
    refine r_iconst dX11_said_15 (by decide) ?_
    obtain rfl := Option.some.inj hr
    exact r_ret dX11_said_16 rfl (Or.inl ⟨rfl, rfl⟩) (k0 _ hk) ⟨rfl, rfl⟩
  · have hr := ifn hr hc
    refine r_iload_n dX11_said_10 rfl 1 rfl (Or.inl rfl) ?_
    refine r_iconst dX11_said_11 (by decide) ?_
    refine r_icmp_ge dX11_said_12 (tgt := 17) (by decide) (fun hc => ?_) (fun hc => ?_)
    · have hr := ifn hr hc
      refine r_aload_n dX11_said_17 rfl 0 rfl (nl rfl) ?_
      refine r_get 11 8 (o := a0) (w := (11, h a0 8)) (T := TX11) (ref := "FollowingRefs") rfl (by decide) rfl (by decide) inlX11 (wsl_2 _ (List.mem_of_getElem? (i := 21) rfl)) rfl dX11_said_18 rfl ?_
      refine r_get 1 3 (o := h a0 8) (w := (20, h (h a0 8) 3)) (T := TX1) (ref := "FollowingRefs$Judge") rfl (by decide) rfl (by decide) inlX1 (wsl_48 _ (List.mem_of_getElem? (i := 22) rfl)) rfl dX11_said_21 rfl ?_
      refine r_aload_n dX11_said_24 rfl 0 rfl (nl rfl) ?_
      refine r_get 11 1 (o := a0) (w := (14, h a0 1)) (T := TX11) (ref := "FollowingRefs") rfl (by decide) rfl (by decide) inlX11 (wsl_1 _ (List.mem_of_getElem? (i := 20) rfl)) rfl dX11_said_25 rfl ?_
      refine r_aload_n dX11_said_28 rfl 0 rfl (nl rfl) ?_
      refine r_get 11 2 (o := a0) (w := (18, h a0 2)) (T := TX11) (ref := "FollowingRefs") rfl (by decide) rfl (by decide) inlX11 (wsl_2 _ (List.mem_of_getElem? (i := 0) rfl)) rfl dX11_said_29 rfl ?_
      refine r_get 8 0 (o := h a0 2) (w := (13, h (h a0 2) 0)) (T := TX8) (ref := "FollowingRefs$State") rfl (by decide) rfl (by decide) inlX8 (wsl_29 _ (List.mem_of_getElem? (i := 9) rfl)) rfl dX11_said_32 rfl ?_
      refine r_iconst dX11_said_35 (by decide) ?_
      refine r_scast 0 (v := (0, 1)) (w := (2, 1)) rfl cz (fun _ => Or.inr rfl) (st' := [(2, 1), (13, h (h a0 2) 0), (14, h a0 1), (20, h (h a0 8) 3)]) rfl ?_
      obtain ⟨q36, hg36, hr⟩ := bnd hr
      refine k_V (ci := 10) (o := h (h a0 8) 3) (T := TX10) (as := [(14, h a0 1), (13, h (h a0 2) 0), (2, 1)]) (rest := []) (X := (some (0, q36.1), q36.2)) (oX10_scan hg36) gX10_scan rfl (by decide) rfl (wsl_50 _ (List.mem_of_getElem? (i := 10) rfl)) rfl dX11_said_36 rfl ?_
      refine r_pop dX11_said_39 (Nat.ne_of_beq_eq_false rfl) ?_
      refine r_iconst dX11_said_40 (by decide) ?_
      refine r_istore_n dX11_said_41 rfl (Or.inl rfl) (by decide) (lv' := [(2, (0, 0)), (0, (21, a0)), (1, (0, a1))]) rfl ?_
      refine r_iconst dX11_said_42 (by decide) ?_
      refine r_istore_n dX11_said_43 rfl (Or.inl rfl) (by decide) (lv' := [(3, (0, 0)), (2, (0, 0)), (0, (21, a0)), (1, (0, a1))]) rfl ?_
      refine r_sub [2, 3, 1, 0] (lv' := [(0, (21, a0)), (1, (0, a1)), (2, (0, 0)), (3, (0, 0))]) rfl ?_
      exact lp_ok (w := fun (q : Int × Int) => Wq p l e R s m args below meth c D G A H0 true n0 M_X11_said x 0 0 44 [(0, (21, a0)), (1, (0, a1)), (2, (0, q.1)), (3, (0, q.2))] [] (q36.2)) (K := K) (fun ⟨q0, q1⟩ r h1 h2 => oX11_said_s44 (K := Sum.elim (fun (q : Int × Int) => Wq p l e R s m args below meth c D G A H0 true n0 M_X11_said x 0 0 44 [(0, (21, a0)), (1, (0, a1)), (2, (0, q.1)), (3, (0, q.2))] [] (q36.2)) (K)) (fun r z => k0 r z) (fun _ _ z => z) h1 h2) hr hk
    · have hr := ifp hr hc
      refine r_iconst dX11_said_15 (by decide) ?_
      obtain rfl := Option.some.inj hr
      exact r_ret dX11_said_16 rfl (Or.inl ⟨rfl, rfl⟩) (k0 _ hk) ⟨rfl, rfl⟩
end M_X11_said
theorem oX11_said {l : Launch} {D : va_G} {G : gG} {h : hH} {a0 a1 : Int} {r : Int × hH} (hr : fX11_said h a0 a1 = some r) : Ctr l D G true yX11_said M_X11_said [(21, a0), (0, a1)] h (some (0, r.1), r.2) :=
  Ctr_of (by decide) rfl (fun z => by cases z) (nl rfl) (fun {p e R s m args below meth c A H0} => by
    exact oX11_said_b0 (K := fun z9 => z9 = r) (fun r9 z => by rw [z]) hr rfl)
/-! X11_imageIn -/
theorem dX11_imageIn_0 : decode cX11_imageIn 0 = .ok (.iload_n 1, 1) := by decide +kernel
theorem dX11_imageIn_1 : decode cX11_imageIn 1 = .ok (.ifCond .lt 21, 3) := by decide +kernel
theorem dX11_imageIn_4 : decode cX11_imageIn 4 = .ok (.iload_n 1, 1) := by decide +kernel
theorem dX11_imageIn_5 : decode cX11_imageIn 5 = .ok (.aload_n 0, 1) := by decide +kernel
theorem dX11_imageIn_6 : decode cX11_imageIn 6 = .ok (.getfield 83, 3) := by decide +kernel
theorem dX11_imageIn_9 : decode cX11_imageIn 9 = .ok (.arraylength, 1) := by decide +kernel
theorem dX11_imageIn_10 : decode cX11_imageIn 10 = .ok (.if_icmp .ge 12, 3) := by decide +kernel
theorem dX11_imageIn_13 : decode cX11_imageIn 13 = .ok (.aload_n 0, 1) := by decide +kernel
theorem dX11_imageIn_14 : decode cX11_imageIn 14 = .ok (.getfield 83, 3) := by decide +kernel
theorem dX11_imageIn_17 : decode cX11_imageIn 17 = .ok (.iload_n 1, 1) := by decide +kernel
theorem dX11_imageIn_18 : decode cX11_imageIn 18 = .ok (.aaload, 1) := by decide +kernel
theorem dX11_imageIn_19 : decode cX11_imageIn 19 = .ok (.goto 4, 3) := by decide +kernel
theorem dX11_imageIn_22 : decode cX11_imageIn 22 = .ok (.aconst_null, 1) := by decide +kernel
theorem dX11_imageIn_23 : decode cX11_imageIn 23 = .ok (.areturn, 1) := by decide +kernel
abbrev M_X11_imageIn : mM := (cX11_imageIn, 2, RX11, some (.object "FollowingRefs$Image"), false, 0, 0, 0, 0)
theorem gX11_imageIn : cI yX11_imageIn M_X11_imageIn 1 := ⟨(wsl_72 _ (List.mem_of_getElem? (i := 16) rfl)), (wsl_72 _ (List.mem_of_getElem? (i := 17) rfl)), (wsl_1 _ (List.mem_of_getElem? (i := 2) rfl)), (wsl_72 _ (List.mem_of_getElem? (i := 18) rfl)), by decide +kernel⟩
noncomputable def fX11_imageIn_b22 (h : hH) : Option (Int) :=
  some (-1)
noncomputable def fX11_imageIn (h : hH) (a0 a1 : Int) : Option (Int) :=
  if a1 < 0 then
    fX11_imageIn_b22 h
  else
    if a1 < h (h a0 12) (-1) then
      (aget h (h a0 12) a1).bind fun v18 =>
      some v18
    else
      fX11_imageIn_b22 h
section M_X11_imageIn
variable {p : Program} {l : Launch} {e : Env} {R : Room} {s : State} {m : MethodId} {args : Array Value} {below : List Frame} {meth : Method} {c : Code} {D : va_G} {G : gG} {A : Nat → Prop} {H0 : Heap} {n0 : Int} {x : Option vV × hH} {h : hH}
set_option maxRecDepth 100000 in
set_option maxHeartbeats 4000000 in
theorem oX11_imageIn_b22 {K : Int → Prop} (k0 : ∀ r, K (r) → x = (some (110, r), h)) {r : Int} (hr : fX11_imageIn_b22 h  = some r) (hk : K r) : Wq p l e R s m args below meth c D G A H0 true n0 M_X11_imageIn x 0 0 22 [] [] h := by
  unfold fX11_imageIn_b22 at hr
  refine r_null (t := 100) (by decide) dX11_imageIn_22 ?_
  skip
  obtain rfl := Option.some.inj hr
  refine r_scast 0 (v := (100, -1)) (w := (110, -1)) rfl (fun _ => rfl) (fun _ => Or.inl ⟨by decide, rfl⟩) (st' := [(110, -1)]) rfl ?_
  exact r_aret (nl rfl) dX11_imageIn_23 rfl (Or.inl ⟨_, rfl⟩) (k0 _ hk) ⟨rfl, rfl⟩
set_option maxRecDepth 100000 in
set_option maxHeartbeats 4000000 in
theorem oX11_imageIn_b0 {a0 a1 : Int} {K : Int → Prop} (k0 : ∀ r, K (r) → x = (some (110, r), h)) {r : Int} (hr : fX11_imageIn h a0 a1 = some r) (hk : K r) : Wq p l e R s m args below meth c D G A H0 true n0 M_X11_imageIn x 0 0 0 [(0, (21, a0)), (1, (0, a1))] [] h := by
  unfold fX11_imageIn at hr
  refine r_iload_n dX11_imageIn_0 rfl 1 rfl (Or.inl rfl) ?_
  refine r_if_lt dX11_imageIn_1 (tgt := 22) (by decide) (fun hc => ?_) (fun hc => ?_)
  · have hr := ifp hr hc
    refine r_sub [] (lv' := []) rfl ?_
    exact oX11_imageIn_b22 (K := K) (fun r z => k0 r z) hr hk
  · have hr := ifn hr hc
    refine r_iload_n dX11_imageIn_4 rfl 1 rfl (Or.inl rfl) ?_
    refine r_aload_n dX11_imageIn_5 rfl 0 rfl (nl rfl) ?_
    refine r_get 11 12 (o := a0) (w := (55, h a0 12)) (T := TX11) (ref := "FollowingRefs") rfl (by decide) rfl (by decide) inlX11 (wsl_3 _ (List.mem_of_getElem? (i := 1) rfl)) rfl dX11_imageIn_6 rfl ?_
    refine r_alen (t := 55) (by decide) (by decide) dX11_imageIn_9 ?_
    refine r_icmp_ge dX11_imageIn_10 (tgt := 22) (by decide) (fun hc => ?_) (fun hc => ?_)
    · have hr := ifn hr hc
      refine r_sub [] (lv' := []) rfl ?_
      exact oX11_imageIn_b22 (K := K) (fun r z => k0 r z) hr hk
    · have hr := ifp hr hc
      refine r_aload_n dX11_imageIn_13 rfl 0 rfl (nl rfl) ?_
      refine r_get 11 12 (o := a0) (w := (55, h a0 12)) (T := TX11) (ref := "FollowingRefs") rfl (by decide) rfl (by decide) inlX11 (wsl_3 _ (List.mem_of_getElem? (i := 1) rfl)) rfl dX11_imageIn_14 rfl ?_
      refine r_iload_n dX11_imageIn_17 rfl 1 rfl (Or.inl rfl) ?_
      obtain ⟨v18, hg18, hr⟩ := bnd hr
      refine r_mald dX11_imageIn_18 hg18 ?_
      refine r_goto dX11_imageIn_19 (tgt := 23) (by decide) ?_
      obtain rfl := Option.some.inj hr
      exact r_aret (nl rfl) dX11_imageIn_23 rfl (Or.inl ⟨_, rfl⟩) (k0 _ hk) ⟨rfl, rfl⟩
end M_X11_imageIn
theorem oX11_imageIn {l : Launch} {D : va_G} {G : gG} {h : hH} {a0 a1 : Int} {r : Int} (hr : fX11_imageIn h a0 a1 = some r) : Ctr l D G true yX11_imageIn M_X11_imageIn [(21, a0), (0, a1)] h (some (110, r), h) :=
  Ctr_of (by decide) rfl (fun z => by cases z) (nl rfl) (fun {p e R s m args below meth c A H0} => by
    exact oX11_imageIn_b0 (K := fun z9 => z9 = r) (fun r9 z => by rw [z]) hr rfl)
/-! X11_image -/
theorem dX11_image_0 : decode cX11_image 0 = .ok (.aload_n 0, 1) := by decide +kernel
theorem dX11_image_1 : decode cX11_image 1 = .ok (.iload_n 1, 1) := by decide +kernel
theorem dX11_image_2 : decode cX11_image 2 = .ok (.invokevirtual 386, 3) := by decide +kernel
theorem dX11_image_5 : decode cX11_image 5 = .ok (.astore_n 2, 1) := by decide +kernel
theorem dX11_image_6 : decode cX11_image 6 = .ok (.aload_n 2, 1) := by decide +kernel
theorem dX11_image_7 : decode cX11_image 7 = .ok (.ifnonnull 5, 3) := by decide +kernel
theorem dX11_image_10 : decode cX11_image 10 = .ok (.iconst 0, 1) := by decide +kernel
theorem dX11_image_11 : decode cX11_image 11 = .ok (.ireturn, 1) := by decide +kernel
theorem dX11_image_12 : decode cX11_image 12 = .ok (.aload_n 2, 1) := by decide +kernel
theorem dX11_image_13 : decode cX11_image 13 = .ok (.iconst 1, 1) := by decide +kernel
theorem dX11_image_14 : decode cX11_image 14 = .ok (.putfield 390, 3) := by decide +kernel
theorem dX11_image_17 : decode cX11_image 17 = .ok (.aload_n 2, 1) := by decide +kernel
theorem dX11_image_18 : decode cX11_image 18 = .ok (.getfield 393, 3) := by decide +kernel
theorem dX11_image_21 : decode cX11_image 21 = .ok (.aload_n 0, 1) := by decide +kernel
theorem dX11_image_22 : decode cX11_image 22 = .ok (.getfield 19, 3) := by decide +kernel
theorem dX11_image_25 : decode cX11_image 25 = .ok (.invokevirtual 120, 3) := by decide +kernel
theorem dX11_image_28 : decode cX11_image 28 = .ok (.aload_n 2, 1) := by decide +kernel
theorem dX11_image_29 : decode cX11_image 29 = .ok (.getfield 394, 3) := by decide +kernel
theorem dX11_image_32 : decode cX11_image 32 = .ok (.aload_n 0, 1) := by decide +kernel
theorem dX11_image_33 : decode cX11_image 33 = .ok (.getfield 26, 3) := by decide +kernel
theorem dX11_image_36 : decode cX11_image 36 = .ok (.invokevirtual 217, 3) := by decide +kernel
theorem dX11_image_39 : decode cX11_image 39 = .ok (.aload_n 2, 1) := by decide +kernel
theorem dX11_image_40 : decode cX11_image 40 = .ok (.getfield 395, 3) := by decide +kernel
theorem dX11_image_43 : decode cX11_image 43 = .ok (.aload_n 0, 1) := by decide +kernel
theorem dX11_image_44 : decode cX11_image 44 = .ok (.getfield 33, 3) := by decide +kernel
theorem dX11_image_47 : decode cX11_image 47 = .ok (.invokevirtual 373, 3) := by decide +kernel
theorem dX11_image_50 : decode cX11_image 50 = .ok (.iconst 1, 1) := by decide +kernel
theorem dX11_image_51 : decode cX11_image 51 = .ok (.ireturn, 1) := by decide +kernel
abbrev M_X11_image : mM := (cX11_image, 3, RX11, some .boolean, false, 4, 147, 0, 0)
theorem gX11_image : cI yX11_image M_X11_image 1 := ⟨(wsl_72 _ (List.mem_of_getElem? (i := 8) rfl)), (wsl_72 _ (List.mem_of_getElem? (i := 9) rfl)), (wsl_1 _ (List.mem_of_getElem? (i := 2) rfl)), (wsl_72 _ (List.mem_of_getElem? (i := 10) rfl)), by decide +kernel⟩
noncomputable def fX11_image (h : hH) (a0 a1 : Int) : Option (Int × hH) :=
  (fX11_imageIn h a0 a1).bind fun r2 =>
  if r2 < 0 then
    some (0, h)
  else
    (pput h r2 0 1).bind fun h14 =>
    (fX4_copyFrom h14 (h14 r2 1) (h14 a0 1)).bind fun h25 =>
    (fX8_copyFrom h25 (h25 r2 2) (h25 a0 2)).bind fun h36 =>
    (fX6_copyFrom h36 (h36 r2 3) (h36 a0 3)).bind fun h47 =>
    some (1, h47)
section M_X11_image
variable {p : Program} {l : Launch} {e : Env} {R : Room} {s : State} {m : MethodId} {args : Array Value} {below : List Frame} {meth : Method} {c : Code} {D : va_G} {G : gG} {A : Nat → Prop} {H0 : Heap} {n0 : Int} {x : Option vV × hH} {h : hH}
set_option maxRecDepth 100000 in
set_option maxHeartbeats 4000000 in
theorem oX11_image_b0 {a0 a1 : Int} {K : Int × hH → Prop} (k0 : ∀ r, K (r) → x = (some (2, r.1), r.2)) {r : Int × hH} (hr : fX11_image h a0 a1 = some r) (hk : K r) : Wq p l e R s m args below meth c D G A H0 true n0 M_X11_image x 0 0 0 [(0, (21, a0)), (1, (0, a1))] [] h := by
  unfold fX11_image at hr
  refine r_aload_n dX11_image_0 rfl 0 rfl (nl rfl) ?_
  refine r_iload_n dX11_image_1 rfl 1 rfl (Or.inl rfl) ?_
  obtain ⟨r2, hg2, hr⟩ := bnd hr
  refine k_V (ci := 11) (o := a0) (T := TX11) (as := [(0, a1)]) (rest := []) (X := (some (110, r2), h)) (oX11_imageIn hg2) gX11_imageIn rfl (by decide) rfl (wsl_72 _ (List.mem_of_getElem? (i := 15) rfl)) rfl dX11_image_2 rfl ?_
  refine r_astore_n dX11_image_5 rfl (nl rfl) (by decide) (lv' := [(2, (110, r2)), (0, (21, a0)), (1, (0, a1))]) rfl ?_
  refine r_aload_n dX11_image_6 rfl 0 rfl (nl rfl) ?_
  refine r_ifnonnull (v := (110, r2)) (nl rfl) dX11_image_7 (tgt := 12) (by decide) (fun hc => ?_) (fun hc => ?_)
  · have hr := ifp hr hc
    refine r_iconst dX11_image_10 (by decide) ?_
    refine r_scast 0 (v := (0, 0)) (w := (2, 0)) rfl cz (fun _ => Or.inl rfl) (st' := [(2, 0)]) rfl ?_
    obtain rfl := Option.some.inj hr
    exact r_ret dX11_image_11 rfl (Or.inr ⟨rfl, rfl⟩) (k0 _ hk) ⟨rfl, rfl⟩
  · have hr := ifn hr (Int.not_lt.mpr hc)
    refine r_lcast 0 (v := (110, r2)) (w := (10, r2)) rfl (cnn (t := 7)) (hTn (t := 7) (by decide) hc) (lv' := [(2, (10, r2)), (0, (21, a0)), (1, (0, a1))]) rfl ?_
    refine r_aload_n dX11_image_12 rfl 0 rfl (nl rfl) ?_
    refine r_iconst dX11_image_13 (by decide) ?_
    refine r_scast 0 (v := (0, 1)) (w := (2, 1)) rfl cz (fun _ => Or.inr rfl) (st' := [(2, 1), (10, r2)]) rfl ?_
    obtain ⟨h14, hg14, hr⟩ := bnd hr
    refine r_put' 0 0 (t := 2) (ref := "FollowingRefs$Image") hg14 rfl tyX0 tyX0_ok nmX0 rfl (by decide) rfl (by decide) inlX0 (wsl_72 _ (List.mem_of_getElem? (i := 11) rfl)) rfl rfl (by decide +kernel) (by decide) rfl (Or.inr (Or.inr (Or.inl ⟨rfl, rfl⟩))) dX11_image_14 ?_
    refine r_aload_n dX11_image_17 rfl 0 rfl (nl rfl) ?_
    refine r_get 0 1 (o := r2) (w := (14, h14 r2 1)) (T := TX0) (ref := "FollowingRefs$Image") rfl (by decide) rfl (by decide) inlX0 (wsl_72 _ (List.mem_of_getElem? (i := 12) rfl)) rfl dX11_image_18 rfl ?_
    refine r_aload_n dX11_image_21 rfl 1 rfl (nl rfl) ?_
    refine r_get 11 1 (o := a0) (w := (14, h14 a0 1)) (T := TX11) (ref := "FollowingRefs") rfl (by decide) rfl (by decide) inlX11 (wsl_1 _ (List.mem_of_getElem? (i := 20) rfl)) rfl dX11_image_22 rfl ?_
    obtain ⟨h25, hg25, hr⟩ := bnd hr
    refine k_V (ci := 4) (o := h14 r2 1) (T := TX4) (as := [(14, h14 a0 1)]) (rest := []) (X := (none, h25)) (oX4_copyFrom hg25) gX4_copyFrom rfl (by decide) rfl (wsl_22 _ (List.mem_of_getElem? (i := 1) rfl)) rfl dX11_image_25 rfl ?_
    refine r_aload_n dX11_image_28 rfl 0 rfl (nl rfl) ?_
    refine r_get 0 2 (o := r2) (w := (18, h25 r2 2)) (T := TX0) (ref := "FollowingRefs$Image") rfl (by decide) rfl (by decide) inlX0 (wsl_72 _ (List.mem_of_getElem? (i := 13) rfl)) rfl dX11_image_29 rfl ?_
    refine r_aload_n dX11_image_32 rfl 1 rfl (nl rfl) ?_
    refine r_get 11 2 (o := a0) (w := (18, h25 a0 2)) (T := TX11) (ref := "FollowingRefs") rfl (by decide) rfl (by decide) inlX11 (wsl_2 _ (List.mem_of_getElem? (i := 0) rfl)) rfl dX11_image_33 rfl ?_
    obtain ⟨h36, hg36, hr⟩ := bnd hr
    refine k_V (ci := 8) (o := h25 r2 2) (T := TX8) (as := [(18, h25 a0 2)]) (rest := []) (X := (none, h36)) (oX8_copyFrom hg36) gX8_copyFrom rfl (by decide) rfl (wsl_40 _ (List.mem_of_getElem? (i := 1) rfl)) rfl dX11_image_36 rfl ?_
    refine r_aload_n dX11_image_39 rfl 0 rfl (nl rfl) ?_
    refine r_get 0 3 (o := r2) (w := (16, h36 r2 3)) (T := TX0) (ref := "FollowingRefs$Image") rfl (by decide) rfl (by decide) inlX0 (wsl_72 _ (List.mem_of_getElem? (i := 14) rfl)) rfl dX11_image_40 rfl ?_
    refine r_aload_n dX11_image_43 rfl 1 rfl (nl rfl) ?_
    refine r_get 11 3 (o := a0) (w := (16, h36 a0 3)) (T := TX11) (ref := "FollowingRefs") rfl (by decide) rfl (by decide) inlX11 (wsl_2 _ (List.mem_of_getElem? (i := 4) rfl)) rfl dX11_image_44 rfl ?_
    obtain ⟨h47, hg47, hr⟩ := bnd hr
    refine k_V (ci := 6) (o := h36 r2 3) (T := TX6) (as := [(16, h36 a0 3)]) (rest := []) (X := (none, h47)) (oX6_copyFrom hg47) gX6_copyFrom rfl (by decide) rfl (wsl_68 _ (List.mem_of_getElem? (i := 14) rfl)) rfl dX11_image_47 rfl ?_
    refine r_iconst dX11_image_50 (by decide) ?_
    refine r_scast 0 (v := (0, 1)) (w := (2, 1)) rfl cz (fun _ => Or.inr rfl) (st' := [(2, 1)]) rfl ?_
    obtain rfl := Option.some.inj hr
    exact r_ret dX11_image_51 rfl (Or.inr ⟨rfl, rfl⟩) (k0 _ hk) ⟨rfl, rfl⟩
end M_X11_image
theorem oX11_image {l : Launch} {D : va_G} {G : gG} {h : hH} {a0 a1 : Int} {r : Int × hH} (hr : fX11_image h a0 a1 = some r) : Ctr l D G true yX11_image M_X11_image [(21, a0), (0, a1)] h (some (2, r.1), r.2) :=
  Ctr_of (by decide) rfl (fun z => by cases z) (nl rfl) (fun {p e R s m args below meth c A H0} => by
    exact oX11_image_b0 (K := fun z9 => z9 = r) (fun r9 z => by rw [z]) hr rfl)
/-! X11_restore -/
theorem dX11_restore_0 : decode cX11_restore 0 = .ok (.aload_n 0, 1) := by decide +kernel
theorem dX11_restore_1 : decode cX11_restore 1 = .ok (.iload_n 1, 1) := by decide +kernel
theorem dX11_restore_2 : decode cX11_restore 2 = .ok (.invokevirtual 386, 3) := by decide +kernel
theorem dX11_restore_5 : decode cX11_restore 5 = .ok (.astore_n 2, 1) := by decide +kernel
theorem dX11_restore_6 : decode cX11_restore 6 = .ok (.aload_n 2, 1) := by decide +kernel
theorem dX11_restore_7 : decode cX11_restore 7 = .ok (.ifnull 10, 3) := by decide +kernel
theorem dX11_restore_10 : decode cX11_restore 10 = .ok (.aload_n 2, 1) := by decide +kernel
theorem dX11_restore_11 : decode cX11_restore 11 = .ok (.getfield 390, 3) := by decide +kernel
theorem dX11_restore_14 : decode cX11_restore 14 = .ok (.ifCond .ne 5, 3) := by decide +kernel
theorem dX11_restore_17 : decode cX11_restore 17 = .ok (.iconst 0, 1) := by decide +kernel
theorem dX11_restore_18 : decode cX11_restore 18 = .ok (.ireturn, 1) := by decide +kernel
theorem dX11_restore_19 : decode cX11_restore 19 = .ok (.aload_n 0, 1) := by decide +kernel
theorem dX11_restore_20 : decode cX11_restore 20 = .ok (.getfield 19, 3) := by decide +kernel
theorem dX11_restore_23 : decode cX11_restore 23 = .ok (.aload_n 2, 1) := by decide +kernel
theorem dX11_restore_24 : decode cX11_restore 24 = .ok (.getfield 393, 3) := by decide +kernel
theorem dX11_restore_27 : decode cX11_restore 27 = .ok (.invokevirtual 120, 3) := by decide +kernel
theorem dX11_restore_30 : decode cX11_restore 30 = .ok (.aload_n 0, 1) := by decide +kernel
theorem dX11_restore_31 : decode cX11_restore 31 = .ok (.getfield 26, 3) := by decide +kernel
theorem dX11_restore_34 : decode cX11_restore 34 = .ok (.aload_n 2, 1) := by decide +kernel
theorem dX11_restore_35 : decode cX11_restore 35 = .ok (.getfield 394, 3) := by decide +kernel
theorem dX11_restore_38 : decode cX11_restore 38 = .ok (.invokevirtual 217, 3) := by decide +kernel
theorem dX11_restore_41 : decode cX11_restore 41 = .ok (.aload_n 0, 1) := by decide +kernel
theorem dX11_restore_42 : decode cX11_restore 42 = .ok (.getfield 33, 3) := by decide +kernel
theorem dX11_restore_45 : decode cX11_restore 45 = .ok (.aload_n 2, 1) := by decide +kernel
theorem dX11_restore_46 : decode cX11_restore 46 = .ok (.getfield 395, 3) := by decide +kernel
theorem dX11_restore_49 : decode cX11_restore 49 = .ok (.invokevirtual 373, 3) := by decide +kernel
theorem dX11_restore_52 : decode cX11_restore 52 = .ok (.aload_n 0, 1) := by decide +kernel
theorem dX11_restore_53 : decode cX11_restore 53 = .ok (.iconst 0, 1) := by decide +kernel
theorem dX11_restore_54 : decode cX11_restore 54 = .ok (.putfield 128, 3) := by decide +kernel
theorem dX11_restore_57 : decode cX11_restore 57 = .ok (.iconst 1, 1) := by decide +kernel
theorem dX11_restore_58 : decode cX11_restore 58 = .ok (.ireturn, 1) := by decide +kernel
abbrev M_X11_restore : mM := (cX11_restore, 3, RX11, some .boolean, false, 4, 147, 0, 0)
theorem gX11_restore : cI yX11_restore M_X11_restore 1 := ⟨(wsl_73 _ (List.mem_of_getElem? (i := 0) rfl)), (wsl_73 _ (List.mem_of_getElem? (i := 1) rfl)), (wsl_1 _ (List.mem_of_getElem? (i := 2) rfl)), (wsl_73 _ (List.mem_of_getElem? (i := 2) rfl)), by decide +kernel⟩
noncomputable def fX11_restore (h : hH) (a0 a1 : Int) : Option (Int × hH) :=
  (fX11_imageIn h a0 a1).bind fun r2 =>
  if r2 < 0 then
    some (0, h)
  else
    if h r2 0 = 0 then
      some (0, h)
    else
      (fX4_copyFrom h (h a0 1) (h r2 1)).bind fun h27 =>
      (fX8_copyFrom h27 (h27 a0 2) (h27 r2 2)).bind fun h38 =>
      (fX6_copyFrom h38 (h38 a0 3) (h38 r2 3)).bind fun h49 =>
      (pput h49 a0 11 0).bind fun h54 =>
      some (1, h54)
section M_X11_restore
variable {p : Program} {l : Launch} {e : Env} {R : Room} {s : State} {m : MethodId} {args : Array Value} {below : List Frame} {meth : Method} {c : Code} {D : va_G} {G : gG} {A : Nat → Prop} {H0 : Heap} {n0 : Int} {x : Option vV × hH} {h : hH}
set_option maxRecDepth 100000 in
set_option maxHeartbeats 4000000 in
theorem oX11_restore_b0 {a0 a1 : Int} {K : Int × hH → Prop} (k0 : ∀ r, K (r) → x = (some (2, r.1), r.2)) {r : Int × hH} (hr : fX11_restore h a0 a1 = some r) (hk : K r) : Wq p l e R s m args below meth c D G A H0 true n0 M_X11_restore x 0 0 0 [(0, (21, a0)), (1, (0, a1))] [] h := by
  unfold fX11_restore at hr
  refine r_aload_n dX11_restore_0 rfl 0 rfl (nl rfl) ?_
  refine r_iload_n dX11_restore_1 rfl 1 rfl (Or.inl rfl) ?_
  obtain ⟨r2, hg2, hr⟩ := bnd hr
  refine k_V (ci := 11) (o := a0) (T := TX11) (as := [(0, a1)]) (rest := []) (X := (some (110, r2), h)) (oX11_imageIn hg2) gX11_imageIn rfl (by decide) rfl (wsl_72 _ (List.mem_of_getElem? (i := 15) rfl)) rfl dX11_restore_2 rfl ?_
  refine r_astore_n dX11_restore_5 rfl (nl rfl) (by decide) (lv' := [(2, (110, r2)), (0, (21, a0)), (1, (0, a1))]) rfl ?_
  refine r_aload_n dX11_restore_6 rfl 0 rfl (nl rfl) ?_
  refine r_ifnull (v := (110, r2)) (nl rfl) dX11_restore_7 (tgt := 17) (by decide) (fun hc => ?_) (fun hc => ?_)
  · have hr := ifp hr hc
    refine r_iconst dX11_restore_17 (by decide) ?_
    refine r_scast 0 (v := (0, 0)) (w := (2, 0)) rfl cz (fun _ => Or.inl rfl) (st' := [(2, 0)]) rfl ?_
    obtain rfl := Option.some.inj hr
    exact r_ret dX11_restore_18 rfl (Or.inr ⟨rfl, rfl⟩) (k0 _ hk) ⟨rfl, rfl⟩
  · have hr := ifn hr (Int.not_lt.mpr hc)
    refine r_lcast 0 (v := (110, r2)) (w := (10, r2)) rfl (cnn (t := 7)) (hTn (t := 7) (by decide) hc) (lv' := [(2, (10, r2)), (0, (21, a0)), (1, (0, a1))]) rfl ?_
    refine r_aload_n dX11_restore_10 rfl 0 rfl (nl rfl) ?_
    refine r_get 0 0 (o := r2) (w := (2, h r2 0)) (T := TX0) (ref := "FollowingRefs$Image") rfl (by decide) rfl (by decide) inlX0 (wsl_72 _ (List.mem_of_getElem? (i := 11) rfl)) rfl dX11_restore_11 rfl ?_
    refine r_scast 0 (v := (2, h r2 0)) (w := (0, h r2 0)) rfl zc hTz (st' := [(0, h r2 0)]) rfl ?_
    refine r_if_ne dX11_restore_14 (tgt := 19) (by decide) (fun hc => ?_) (fun hc => ?_)
    · have hr := ifn hr hc
      refine r_aload_n dX11_restore_19 rfl 1 rfl (nl rfl) ?_
      refine r_get 11 1 (o := a0) (w := (14, h a0 1)) (T := TX11) (ref := "FollowingRefs") rfl (by decide) rfl (by decide) inlX11 (wsl_1 _ (List.mem_of_getElem? (i := 20) rfl)) rfl dX11_restore_20 rfl ?_
      refine r_aload_n dX11_restore_23 rfl 0 rfl (nl rfl) ?_
      refine r_get 0 1 (o := r2) (w := (14, h r2 1)) (T := TX0) (ref := "FollowingRefs$Image") rfl (by decide) rfl (by decide) inlX0 (wsl_72 _ (List.mem_of_getElem? (i := 12) rfl)) rfl dX11_restore_24 rfl ?_
      obtain ⟨h27, hg27, hr⟩ := bnd hr
      refine k_V (ci := 4) (o := h a0 1) (T := TX4) (as := [(14, h r2 1)]) (rest := []) (X := (none, h27)) (oX4_copyFrom hg27) gX4_copyFrom rfl (by decide) rfl (wsl_22 _ (List.mem_of_getElem? (i := 1) rfl)) rfl dX11_restore_27 rfl ?_
      refine r_aload_n dX11_restore_30 rfl 1 rfl (nl rfl) ?_
      refine r_get 11 2 (o := a0) (w := (18, h27 a0 2)) (T := TX11) (ref := "FollowingRefs") rfl (by decide) rfl (by decide) inlX11 (wsl_2 _ (List.mem_of_getElem? (i := 0) rfl)) rfl dX11_restore_31 rfl ?_
      refine r_aload_n dX11_restore_34 rfl 0 rfl (nl rfl) ?_
      refine r_get 0 2 (o := r2) (w := (18, h27 r2 2)) (T := TX0) (ref := "FollowingRefs$Image") rfl (by decide) rfl (by decide) inlX0 (wsl_72 _ (List.mem_of_getElem? (i := 13) rfl)) rfl dX11_restore_35 rfl ?_
      obtain ⟨h38, hg38, hr⟩ := bnd hr
      refine k_V (ci := 8) (o := h27 a0 2) (T := TX8) (as := [(18, h27 r2 2)]) (rest := []) (X := (none, h38)) (oX8_copyFrom hg38) gX8_copyFrom rfl (by decide) rfl (wsl_40 _ (List.mem_of_getElem? (i := 1) rfl)) rfl dX11_restore_38 rfl ?_
      refine r_aload_n dX11_restore_41 rfl 1 rfl (nl rfl) ?_
      refine r_get 11 3 (o := a0) (w := (16, h38 a0 3)) (T := TX11) (ref := "FollowingRefs") rfl (by decide) rfl (by decide) inlX11 (wsl_2 _ (List.mem_of_getElem? (i := 4) rfl)) rfl dX11_restore_42 rfl ?_
      refine r_aload_n dX11_restore_45 rfl 0 rfl (nl rfl) ?_
      refine r_get 0 3 (o := r2) (w := (16, h38 r2 3)) (T := TX0) (ref := "FollowingRefs$Image") rfl (by decide) rfl (by decide) inlX0 (wsl_72 _ (List.mem_of_getElem? (i := 14) rfl)) rfl dX11_restore_46 rfl ?_
      obtain ⟨h49, hg49, hr⟩ := bnd hr
      refine k_V (ci := 6) (o := h38 a0 3) (T := TX6) (as := [(16, h38 r2 3)]) (rest := []) (X := (none, h49)) (oX6_copyFrom hg49) gX6_copyFrom rfl (by decide) rfl (wsl_68 _ (List.mem_of_getElem? (i := 14) rfl)) rfl dX11_restore_49 rfl ?_
      refine r_aload_n dX11_restore_52 rfl 1 rfl (nl rfl) ?_
      refine r_iconst dX11_restore_53 (by decide) ?_
      obtain ⟨h54, hg54, hr⟩ := bnd hr
      refine r_put' 11 11 (t := 0) (ref := "FollowingRefs") hg54 rfl tyX11 tyX11_ok nmX11 rfl (by decide) rfl (by decide) inlX11 (wsl_11 _ (List.mem_of_getElem? (i := 7) rfl)) rfl rfl (by decide +kernel) (by decide) rfl (Or.inl ⟨rfl, rfl⟩) dX11_restore_54 ?_
      refine r_iconst dX11_restore_57 (by decide) ?_
      refine r_scast 0 (v := (0, 1)) (w := (2, 1)) rfl cz (fun _ => Or.inr rfl) (st' := [(2, 1)]) rfl ?_
      obtain rfl := Option.some.inj hr
      exact r_ret dX11_restore_58 rfl (Or.inr ⟨rfl, rfl⟩) (k0 _ hk) ⟨rfl, rfl⟩
    · have hr := ifp hr hc
      refine r_iconst dX11_restore_17 (by decide) ?_
      refine r_scast 0 (v := (0, 0)) (w := (2, 0)) rfl cz (fun _ => Or.inl rfl) (st' := [(2, 0)]) rfl ?_
      obtain rfl := Option.some.inj hr
      exact r_ret dX11_restore_18 rfl (Or.inr ⟨rfl, rfl⟩) (k0 _ hk) ⟨rfl, rfl⟩
end M_X11_restore
theorem oX11_restore {l : Launch} {D : va_G} {G : gG} {h : hH} {a0 a1 : Int} {r : Int × hH} (hr : fX11_restore h a0 a1 = some r) : Ctr l D G true yX11_restore M_X11_restore [(21, a0), (0, a1)] h (some (2, r.1), r.2) :=
  Ctr_of (by decide) rfl (fun z => by cases z) (nl rfl) (fun {p e R s m args below meth c A H0} => by
    exact oX11_restore_b0 (K := fun z9 => z9 = r) (fun r9 z => by rw [z]) hr rfl)
/-! X11_count -/
theorem dX11_count_0 : decode cX11_count 0 = .ok (.iload_n 1, 1) := by decide +kernel
theorem dX11_count_1 : decode cX11_count 1 = .ok (.tableswitch 75 0 4 #[35, 43, 51, 59, 67], 35) := by decide +kernel
theorem dX11_count_36 : decode cX11_count 36 = .ok (.aload_n 0, 1) := by decide +kernel
theorem dX11_count_37 : decode cX11_count 37 = .ok (.getfield 19, 3) := by decide +kernel
theorem dX11_count_40 : decode cX11_count 40 = .ok (.getfield 228, 3) := by decide +kernel
theorem dX11_count_43 : decode cX11_count 43 = .ok (.ireturn, 1) := by decide +kernel
theorem dX11_count_44 : decode cX11_count 44 = .ok (.aload_n 0, 1) := by decide +kernel
theorem dX11_count_45 : decode cX11_count 45 = .ok (.getfield 19, 3) := by decide +kernel
theorem dX11_count_48 : decode cX11_count 48 = .ok (.getfield 398, 3) := by decide +kernel
theorem dX11_count_51 : decode cX11_count 51 = .ok (.ireturn, 1) := by decide +kernel
theorem dX11_count_52 : decode cX11_count 52 = .ok (.aload_n 0, 1) := by decide +kernel
theorem dX11_count_53 : decode cX11_count 53 = .ok (.getfield 19, 3) := by decide +kernel
theorem dX11_count_56 : decode cX11_count 56 = .ok (.getfield 253, 3) := by decide +kernel
theorem dX11_count_59 : decode cX11_count 59 = .ok (.ireturn, 1) := by decide +kernel
theorem dX11_count_60 : decode cX11_count 60 = .ok (.aload_n 0, 1) := by decide +kernel
theorem dX11_count_61 : decode cX11_count 61 = .ok (.getfield 19, 3) := by decide +kernel
theorem dX11_count_64 : decode cX11_count 64 = .ok (.getfield 401, 3) := by decide +kernel
theorem dX11_count_67 : decode cX11_count 67 = .ok (.ireturn, 1) := by decide +kernel
theorem dX11_count_68 : decode cX11_count 68 = .ok (.aload_n 0, 1) := by decide +kernel
theorem dX11_count_69 : decode cX11_count 69 = .ok (.getfield 12, 3) := by decide +kernel
theorem dX11_count_72 : decode cX11_count 72 = .ok (.getfield 102, 3) := by decide +kernel
theorem dX11_count_75 : decode cX11_count 75 = .ok (.ireturn, 1) := by decide +kernel
theorem dX11_count_76 : decode cX11_count 76 = .ok (.iconst (-1), 1) := by decide +kernel
theorem dX11_count_77 : decode cX11_count 77 = .ok (.ireturn, 1) := by decide +kernel
abbrev M_X11_count : mM := (cX11_count, 2, RX11, some .int, false, 0, 0, 0, 0)
theorem gX11_count : cI yX11_count M_X11_count 1 := ⟨(wsl_73 _ (List.mem_of_getElem? (i := 8) rfl)), (wsl_73 _ (List.mem_of_getElem? (i := 9) rfl)), (wsl_1 _ (List.mem_of_getElem? (i := 2) rfl)), (wsl_73 _ (List.mem_of_getElem? (i := 10) rfl)), by decide +kernel⟩
noncomputable def fX11_count (h : hH) (a0 a1 : Int) : Option (Int) :=
  if a1 = 0 then
    some (h (h a0 1) 0)
  else
    if a1 = 1 then
      some (h (h a0 1) 1)
    else
      if a1 = 2 then
        some (h (h a0 1) 2)
      else
        if a1 = 3 then
          some (h (h a0 1) 3)
        else
          if a1 = 4 then
            some (h (h a0 0) 1)
          else
            some (-1)
section M_X11_count
variable {p : Program} {l : Launch} {e : Env} {R : Room} {s : State} {m : MethodId} {args : Array Value} {below : List Frame} {meth : Method} {c : Code} {D : va_G} {G : gG} {A : Nat → Prop} {H0 : Heap} {n0 : Int} {x : Option vV × hH} {h : hH}
set_option maxRecDepth 100000 in
set_option maxHeartbeats 4000000 in
theorem oX11_count_b0 {a0 a1 : Int} {K : Int → Prop} (k0 : ∀ r, K (r) → x = (some (0, r), h)) {r : Int} (hr : fX11_count h a0 a1 = some r) (hk : K r) : Wq p l e R s m args below meth c D G A H0 true n0 M_X11_count x 0 0 0 [(0, (21, a0)), (1, (0, a1))] [] h := by
  unfold fX11_count at hr
  refine r_iload_n dX11_count_0 rfl 1 rfl (Or.inl rfl) ?_
  by_cases hs0 : a1 = 0
  · have hr := ifp hr hs0
    refine r_tableIn dX11_count_1 (by omega) (by omega) (off := 35) (by rw [hs0]; rfl) (tgt := 36) (by decide) ?_
    refine r_aload_n dX11_count_36 rfl 0 rfl (nl rfl) ?_
    refine r_get 11 1 (o := a0) (w := (14, h a0 1)) (T := TX11) (ref := "FollowingRefs") rfl (by decide) rfl (by decide) inlX11 (wsl_1 _ (List.mem_of_getElem? (i := 20) rfl)) rfl dX11_count_37 rfl ?_
    refine r_get 4 0 (o := h a0 1) (w := (0, h (h a0 1) 0)) (T := TX4) (ref := "FollowingRefs$Schema") rfl (by decide) rfl (by decide) inlX4 (wsl_52 _ (List.mem_of_getElem? (i := 22) rfl)) rfl dX11_count_40 rfl ?_
    obtain rfl := Option.some.inj hr
    exact r_ret dX11_count_43 rfl (Or.inl ⟨rfl, rfl⟩) (k0 _ hk) ⟨rfl, rfl⟩
  have hr := ifn hr hs0
  by_cases hs1 : a1 = 1
  · have hr := ifp hr hs1
    refine r_tableIn dX11_count_1 (by omega) (by omega) (off := 43) (by rw [hs1]; rfl) (tgt := 44) (by decide) ?_
    refine r_aload_n dX11_count_44 rfl 0 rfl (nl rfl) ?_
    refine r_get 11 1 (o := a0) (w := (14, h a0 1)) (T := TX11) (ref := "FollowingRefs") rfl (by decide) rfl (by decide) inlX11 (wsl_1 _ (List.mem_of_getElem? (i := 20) rfl)) rfl dX11_count_45 rfl ?_
    refine r_get 4 1 (o := h a0 1) (w := (0, h (h a0 1) 1)) (T := TX4) (ref := "FollowingRefs$Schema") rfl (by decide) rfl (by decide) inlX4 (wsl_73 _ (List.mem_of_getElem? (i := 11) rfl)) rfl dX11_count_48 rfl ?_
    obtain rfl := Option.some.inj hr
    exact r_ret dX11_count_51 rfl (Or.inl ⟨rfl, rfl⟩) (k0 _ hk) ⟨rfl, rfl⟩
  have hr := ifn hr hs1
  by_cases hs2 : a1 = 2
  · have hr := ifp hr hs2
    refine r_tableIn dX11_count_1 (by omega) (by omega) (off := 51) (by rw [hs2]; rfl) (tgt := 52) (by decide) ?_
    refine r_aload_n dX11_count_52 rfl 0 rfl (nl rfl) ?_
    refine r_get 11 1 (o := a0) (w := (14, h a0 1)) (T := TX11) (ref := "FollowingRefs") rfl (by decide) rfl (by decide) inlX11 (wsl_1 _ (List.mem_of_getElem? (i := 20) rfl)) rfl dX11_count_53 rfl ?_
    refine r_get 4 2 (o := h a0 1) (w := (0, h (h a0 1) 2)) (T := TX4) (ref := "FollowingRefs$Schema") rfl (by decide) rfl (by decide) inlX4 (wsl_56 _ (List.mem_of_getElem? (i := 1) rfl)) rfl dX11_count_56 rfl ?_
    obtain rfl := Option.some.inj hr
    exact r_ret dX11_count_59 rfl (Or.inl ⟨rfl, rfl⟩) (k0 _ hk) ⟨rfl, rfl⟩
  have hr := ifn hr hs2
  by_cases hs3 : a1 = 3
  · have hr := ifp hr hs3
    refine r_tableIn dX11_count_1 (by omega) (by omega) (off := 59) (by rw [hs3]; rfl) (tgt := 60) (by decide) ?_
    refine r_aload_n dX11_count_60 rfl 0 rfl (nl rfl) ?_
    refine r_get 11 1 (o := a0) (w := (14, h a0 1)) (T := TX11) (ref := "FollowingRefs") rfl (by decide) rfl (by decide) inlX11 (wsl_1 _ (List.mem_of_getElem? (i := 20) rfl)) rfl dX11_count_61 rfl ?_
    refine r_get 4 3 (o := h a0 1) (w := (0, h (h a0 1) 3)) (T := TX4) (ref := "FollowingRefs$Schema") rfl (by decide) rfl (by decide) inlX4 (wsl_73 _ (List.mem_of_getElem? (i := 12) rfl)) rfl dX11_count_64 rfl ?_
    obtain rfl := Option.some.inj hr
    exact r_ret dX11_count_67 rfl (Or.inl ⟨rfl, rfl⟩) (k0 _ hk) ⟨rfl, rfl⟩
  have hr := ifn hr hs3
  by_cases hs4 : a1 = 4
  · have hr := ifp hr hs4
    refine r_tableIn dX11_count_1 (by omega) (by omega) (off := 67) (by rw [hs4]; rfl) (tgt := 68) (by decide) ?_
    refine r_aload_n dX11_count_68 rfl 0 rfl (nl rfl) ?_
    refine r_get 11 0 (o := a0) (w := (19, h a0 0)) (T := TX11) (ref := "FollowingRefs") rfl (by decide) rfl (by decide) inlX11 (wsl_1 _ (List.mem_of_getElem? (i := 16) rfl)) rfl dX11_count_69 rfl ?_
    refine r_get 9 1 (o := h a0 0) (w := (0, h (h a0 0) 1)) (T := TX9) (ref := "FollowingRefs$Text") rfl (by decide) rfl (by decide) inlX9 (wsl_10 _ (List.mem_of_getElem? (i := 1) rfl)) rfl dX11_count_72 rfl ?_
    obtain rfl := Option.some.inj hr
    exact r_ret dX11_count_75 rfl (Or.inl ⟨rfl, rfl⟩) (k0 _ hk) ⟨rfl, rfl⟩
  have hr := ifn hr hs4
  refine r_tableOut dX11_count_1 (by omega) (tgt := 76) (by decide) ?_
  refine r_iconst dX11_count_76 (by decide) ?_
  obtain rfl := Option.some.inj hr
  exact r_ret dX11_count_77 rfl (Or.inl ⟨rfl, rfl⟩) (k0 _ hk) ⟨rfl, rfl⟩
end M_X11_count
theorem oX11_count {l : Launch} {D : va_G} {G : gG} {h : hH} {a0 a1 : Int} {r : Int} (hr : fX11_count h a0 a1 = some r) : Ctr l D G true yX11_count M_X11_count [(21, a0), (0, a1)] h (some (0, r), h) :=
  Ctr_of (by decide) rfl (fun z => by cases z) (nl rfl) (fun {p e R s m args below meth c A H0} => by
    exact oX11_count_b0 (K := fun z9 => z9 = r) (fun r9 z => by rw [z]) hr rfl)
/-! X11_commonDivisor -/
theorem dX11_commonDivisor_0 : decode cX11_commonDivisor 0 = .ok (.iload_n 0, 1) := by decide +kernel
theorem dX11_commonDivisor_1 : decode cX11_commonDivisor 1 = .ok (.istore_n 2, 1) := by decide +kernel
theorem dX11_commonDivisor_2 : decode cX11_commonDivisor 2 = .ok (.iload_n 1, 1) := by decide +kernel
theorem dX11_commonDivisor_3 : decode cX11_commonDivisor 3 = .ok (.istore_n 3, 1) := by decide +kernel
theorem dX11_commonDivisor_4 : decode cX11_commonDivisor 4 = .ok (.iconst 0, 1) := by decide +kernel
theorem dX11_commonDivisor_5 : decode cX11_commonDivisor 5 = .ok (.istore 4, 2) := by decide +kernel
theorem dX11_commonDivisor_7 : decode cX11_commonDivisor 7 = .ok (.iload 4, 2) := by decide +kernel
theorem dX11_commonDivisor_9 : decode cX11_commonDivisor 9 = .ok (.bipush 64, 2) := by decide +kernel
theorem dX11_commonDivisor_11 : decode cX11_commonDivisor 11 = .ok (.if_icmp .ge 23, 3) := by decide +kernel
theorem dX11_commonDivisor_14 : decode cX11_commonDivisor 14 = .ok (.iload_n 3, 1) := by decide +kernel
theorem dX11_commonDivisor_15 : decode cX11_commonDivisor 15 = .ok (.ifCond .eq 19, 3) := by decide +kernel
theorem dX11_commonDivisor_18 : decode cX11_commonDivisor 18 = .ok (.iload_n 2, 1) := by decide +kernel
theorem dX11_commonDivisor_19 : decode cX11_commonDivisor 19 = .ok (.iload_n 3, 1) := by decide +kernel
theorem dX11_commonDivisor_20 : decode cX11_commonDivisor 20 = .ok (.irem, 1) := by decide +kernel
theorem dX11_commonDivisor_21 : decode cX11_commonDivisor 21 = .ok (.istore 5, 2) := by decide +kernel
theorem dX11_commonDivisor_23 : decode cX11_commonDivisor 23 = .ok (.iload_n 3, 1) := by decide +kernel
theorem dX11_commonDivisor_24 : decode cX11_commonDivisor 24 = .ok (.istore_n 2, 1) := by decide +kernel
theorem dX11_commonDivisor_25 : decode cX11_commonDivisor 25 = .ok (.iload 5, 2) := by decide +kernel
theorem dX11_commonDivisor_27 : decode cX11_commonDivisor 27 = .ok (.istore_n 3, 1) := by decide +kernel
theorem dX11_commonDivisor_28 : decode cX11_commonDivisor 28 = .ok (.iinc 4 1, 3) := by decide +kernel
theorem dX11_commonDivisor_31 : decode cX11_commonDivisor 31 = .ok (.goto (-24), 3) := by decide +kernel
theorem dX11_commonDivisor_34 : decode cX11_commonDivisor 34 = .ok (.iload_n 2, 1) := by decide +kernel
theorem dX11_commonDivisor_35 : decode cX11_commonDivisor 35 = .ok (.ireturn, 1) := by decide +kernel
abbrev M_X11_commonDivisor : mM := (cX11_commonDivisor, 6, RX11, some .int, false, 0, 0, 0, 0)
theorem gX11_commonDivisor : cS yX11_commonDivisor M_X11_commonDivisor 2 := ⟨(wsl_61 _ (List.mem_of_getElem? (i := 8) rfl)), (wsl_1 _ (List.mem_of_getElem? (i := 2) rfl)), (wsl_61 _ (List.mem_of_getElem? (i := 9) rfl)), by decide +kernel⟩
noncomputable def fX11_commonDivisor_s7 (h : hH) : Int × Int × Int → Option ((Int × Int × Int) ⊕ (Int)) := fun (l2, l3, l4) =>
  if l4 < 64 then
    if l3 = 0 then
      some (.inr (l2))
    else
      (gdz l3).bind fun _ =>
      some (.inl (l3, irmD l2 l3, w32 (l4 + 1)))
  else
    some (.inr (l2))
noncomputable def fX11_commonDivisor (h : hH) (a0 a1 : Int) : Option (Int) :=
  lpO (fX11_commonDivisor_s7 h) (a0, a1, 0)
section M_X11_commonDivisor
variable {p : Program} {l : Launch} {e : Env} {R : Room} {s : State} {m : MethodId} {args : Array Value} {below : List Frame} {meth : Method} {c : Code} {D : va_G} {G : gG} {A : Nat → Prop} {H0 : Heap} {n0 : Int} {x : Option vV × hH} {h : hH}
set_option maxRecDepth 100000 in
set_option maxHeartbeats 4000000 in
theorem oX11_commonDivisor_s7 {l2 l3 l4 : Int} {K : (Int × Int × Int) ⊕ (Int) → Prop} (k0 : ∀ r, K (.inr (r)) → x = (some (0, r), h)) (k1 : ∀ (l2 : Int) (l3 : Int) (l4 : Int), K (.inl (l2, l3, l4)) → Wq p l e R s m args below meth c D G A H0 true n0 M_X11_commonDivisor x 0 0 7 [(2, (0, l2)), (3, (0, l3)), (4, (0, l4))] [] h) {r : (Int × Int × Int) ⊕ (Int)} (hr : fX11_commonDivisor_s7 h  (l2, l3, l4) = some r) (hk : K r) : Wq p l e R s m args below meth c D G A H0 true n0 M_X11_commonDivisor x 0 0 7 [(2, (0, l2)), (3, (0, l3)), (4, (0, l4))] [] h := by
  unfold fX11_commonDivisor_s7 at hr
  refine r_iload dX11_commonDivisor_7 2 rfl (Or.inl rfl) ?_
  refine r_bipush dX11_commonDivisor_9 (by decide) (by decide) ?_
  refine r_icmp_ge dX11_commonDivisor_11 (tgt := 34) (by decide) (fun hc => ?_) (fun hc => ?_)
  · have hr := ifn hr hc
    refine r_iload_n dX11_commonDivisor_34 rfl 0 rfl (Or.inl rfl) ?_
    obtain rfl := Option.some.inj hr
    exact r_ret dX11_commonDivisor_35 rfl (Or.inl ⟨rfl, rfl⟩) (k0 _ hk) ⟨rfl, rfl⟩
  · have hr := ifp hr hc
    refine r_iload_n dX11_commonDivisor_14 rfl 1 rfl (Or.inl rfl) ?_
    refine r_if_eq dX11_commonDivisor_15 (tgt := 34) (by decide) (fun hc => ?_) (fun hc => ?_)
    · have hr := ifp hr hc
      refine r_iload_n dX11_commonDivisor_34 rfl 0 rfl (Or.inl rfl) ?_
      obtain rfl := Option.some.inj hr
      exact r_ret dX11_commonDivisor_35 rfl (Or.inl ⟨rfl, rfl⟩) (k0 _ hk) ⟨rfl, rfl⟩
    · have hr := ifn hr hc
      refine r_iload_n dX11_commonDivisor_18 rfl 0 rfl (Or.inl rfl) ?_
      refine r_iload_n dX11_commonDivisor_19 rfl 1 rfl (Or.inl rfl) ?_
      obtain ⟨z20, hg20, hr⟩ := bnd hr
      refine r_irem' dX11_commonDivisor_20 hg20 ?_
      refine r_istore dX11_commonDivisor_21 (Or.inl rfl) (by decide) (lv' := [(5, (0, irmD l2 l3)), (2, (0, l2)), (3, (0, l3)), (4, (0, l4))]) rfl ?_
      refine r_iload_n dX11_commonDivisor_23 rfl 2 rfl (Or.inl rfl) ?_
      refine r_istore_n dX11_commonDivisor_24 rfl (Or.inl rfl) (by decide) (lv' := [(2, (0, l3)), (5, (0, irmD l2 l3)), (3, (0, l3)), (4, (0, l4))]) rfl ?_
      refine r_iload dX11_commonDivisor_25 1 rfl (Or.inl rfl) ?_
      refine r_istore_n dX11_commonDivisor_27 rfl (Or.inl rfl) (by decide) (lv' := [(3, (0, irmD l2 l3)), (2, (0, l3)), (5, (0, irmD l2 l3)), (4, (0, l4))]) rfl ?_
      refine r_iinc (k := 3) (v := l4) dX11_commonDivisor_28 rfl (by decide) (lv' := [(4, (0, w32 (l4 + 1))), (3, (0, irmD l2 l3)), (2, (0, l3)), (5, (0, irmD l2 l3))]) rfl ?_
      refine r_goto dX11_commonDivisor_31 (tgt := 7) (by decide) ?_
      refine r_sub [2, 1, 0] (lv' := [(2, (0, l3)), (3, (0, irmD l2 l3)), (4, (0, w32 (l4 + 1)))]) rfl ?_
      obtain rfl := Option.some.inj hr
      exact k1 _ _ _ hk
set_option maxRecDepth 100000 in
set_option maxHeartbeats 4000000 in
theorem oX11_commonDivisor_b0 {a0 a1 : Int} {K : Int → Prop} (k0 : ∀ r, K (r) → x = (some (0, r), h)) {r : Int} (hr : fX11_commonDivisor h a0 a1 = some r) (hk : K r) : Wq p l e R s m args below meth c D G A H0 true n0 M_X11_commonDivisor x 0 0 0 [(0, (0, a0)), (1, (0, a1))] [] h := by
  unfold fX11_commonDivisor at hr
  refine r_iload_n dX11_commonDivisor_0 rfl 0 rfl (Or.inl rfl) ?_
  refine r_istore_n dX11_commonDivisor_1 rfl (Or.inl rfl) (by decide) (lv' := [(2, (0, a0)), (0, (0, a0)), (1, (0, a1))]) rfl ?_
  refine r_iload_n dX11_commonDivisor_2 rfl 2 rfl (Or.inl rfl) ?_
  refine r_istore_n dX11_commonDivisor_3 rfl (Or.inl rfl) (by decide) (lv' := [(3, (0, a1)), (2, (0, a0)), (0, (0, a0)), (1, (0, a1))]) rfl ?_
  refine r_iconst dX11_commonDivisor_4 (by decide) ?_
  refine r_istore dX11_commonDivisor_5 (Or.inl rfl) (by decide) (lv' := [(4, (0, 0)), (3, (0, a1)), (2, (0, a0)), (0, (0, a0)), (1, (0, a1))]) rfl ?_
  refine r_sub [2, 1, 0] (lv' := [(2, (0, a0)), (3, (0, a1)), (4, (0, 0))]) rfl ?_
  exact lp_ok (w := fun (q : Int × Int × Int) => Wq p l e R s m args below meth c D G A H0 true n0 M_X11_commonDivisor x 0 0 7 [(2, (0, q.1)), (3, (0, q.2.1)), (4, (0, q.2.2))] [] (h)) (K := K) (fun ⟨q0, q1, q2⟩ r h1 h2 => oX11_commonDivisor_s7 (K := Sum.elim (fun (q : Int × Int × Int) => Wq p l e R s m args below meth c D G A H0 true n0 M_X11_commonDivisor x 0 0 7 [(2, (0, q.1)), (3, (0, q.2.1)), (4, (0, q.2.2))] [] (h)) (K)) (fun r z => k0 r z) (fun _ _ _ z => z) h1 h2) hr hk
end M_X11_commonDivisor
theorem oX11_commonDivisor {l : Launch} {D : va_G} {G : gG} {h : hH} {a0 a1 : Int} {r : Int} (hr : fX11_commonDivisor h a0 a1 = some r) : Ctr l D G true yX11_commonDivisor M_X11_commonDivisor [(0, a0), (0, a1)] h (some (0, r), h) :=
  Ctr_of (by decide) rfl (fun z => by cases z) (nl rfl) (fun {p e R s m args below meth c A H0} => by
    exact oX11_commonDivisor_b0 (K := fun z9 => z9 = r) (fun r9 z => by rw [z]) hr rfl)
