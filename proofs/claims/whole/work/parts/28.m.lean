/-! X12_looksAtCol -/
theorem dX12_looksAtCol_0 : decode cX12_looksAtCol 0 = .ok (.aload_n 0, 1) := by decide +kernel
theorem dX12_looksAtCol_1 : decode cX12_looksAtCol 1 = .ok (.iconst 4, 1) := by decide +kernel
theorem dX12_looksAtCol_2 : decode cX12_looksAtCol 2 = .ok (.iconst 4, 1) := by decide +kernel
theorem dX12_looksAtCol_3 : decode cX12_looksAtCol 3 = .ok (.iload_n 1, 1) := by decide +kernel
theorem dX12_looksAtCol_4 : decode cX12_looksAtCol 4 = .ok (.imul, 1) := by decide +kernel
theorem dX12_looksAtCol_5 : decode cX12_looksAtCol 5 = .ok (.iadd, 1) := by decide +kernel
theorem dX12_looksAtCol_6 : decode cX12_looksAtCol 6 = .ok (.aload_n 0, 1) := by decide +kernel
theorem dX12_looksAtCol_7 : decode cX12_looksAtCol 7 = .ok (.getfield 33, 3) := by decide +kernel
theorem dX12_looksAtCol_10 : decode cX12_looksAtCol 10 = .ok (.iconst 4, 1) := by decide +kernel
theorem dX12_looksAtCol_11 : decode cX12_looksAtCol 11 = .ok (.iload_n 1, 1) := by decide +kernel
theorem dX12_looksAtCol_12 : decode cX12_looksAtCol 12 = .ok (.iadd, 1) := by decide +kernel
theorem dX12_looksAtCol_13 : decode cX12_looksAtCol 13 = .ok (.iaload, 1) := by decide +kernel
theorem dX12_looksAtCol_14 : decode cX12_looksAtCol 14 = .ok (.invokevirtual 244, 3) := by decide +kernel
theorem dX12_looksAtCol_17 : decode cX12_looksAtCol 17 = .ok (.ireturn, 1) := by decide +kernel
abbrev M_X12_looksAtCol : mM := (cX12_looksAtCol, 2, RX12, some .boolean, false, 2, 45, 0, 0)
theorem gX12_looksAtCol : cI yX12_looksAtCol M_X12_looksAtCol 1 := ⟨(wsl_41 _ (List.mem_of_getElem? (i := 16) rfl)), (wsl_41 _ (List.mem_of_getElem? (i := 17) rfl)), (wsl_1 _ (List.mem_of_getElem? (i := 5) rfl)), (wsl_41 _ (List.mem_of_getElem? (i := 18) rfl)), by decide +kernel⟩
noncomputable def fX12_looksAtCol (h : hH) (a0 a1 : Int) : Option (Int × hH) :=
  (aget h (h a0 6) (w32 (4 + a1))).bind fun v13 =>
  (fX12_looksAt h a0 (w32 (4 + (w32 (4 * a1)))) v13).bind fun q14 =>
  some (q14.1, q14.2)
section M_X12_looksAtCol
variable {p : Program} {l : Launch} {e : Env} {R : Room} {s : State} {m : MethodId} {args : Array Value} {below : List Frame} {meth : Method} {c : Code} {D : va_G} {G : gG} {A : Nat → Prop} {H0 : Heap} {n0 : Int} {x : Option vV × hH} {h : hH}
set_option maxRecDepth 100000 in
set_option maxHeartbeats 4000000 in
theorem oX12_looksAtCol_b0 {a0 a1 : Int} {K : Int × hH → Prop} (k0 : ∀ r, K (r) → x = (some (2, r.1), r.2)) {r : Int × hH} (hr : fX12_looksAtCol h a0 a1 = some r) (hk : K r) : Wq p l e R s m args below meth c D G A H0 true n0 M_X12_looksAtCol x 0 0 0 [(0, (22, a0)), (1, (0, a1))] [] h := by
  unfold fX12_looksAtCol at hr
  refine r_aload_n dX12_looksAtCol_0 rfl 0 rfl (nl rfl) ?_
  refine r_iconst dX12_looksAtCol_1 (by decide) ?_
  refine r_iconst dX12_looksAtCol_2 (by decide) ?_
  refine r_iload_n dX12_looksAtCol_3 rfl 1 rfl (Or.inl rfl) ?_
  refine r_imul dX12_looksAtCol_4 ?_
  refine r_iadd dX12_looksAtCol_5 ?_
  refine r_aload_n dX12_looksAtCol_6 rfl 0 rfl (nl rfl) ?_
  refine r_get 12 6 (o := a0) (w := (50, h a0 6)) (T := TX12) (ref := "FollowingRefsModel") rfl (by decide) rfl (by decide) inlX12 (wsl_7 _ (List.mem_of_getElem? (i := 8) rfl)) rfl dX12_looksAtCol_7 rfl ?_
  refine r_iconst dX12_looksAtCol_10 (by decide) ?_
  refine r_iload_n dX12_looksAtCol_11 rfl 1 rfl (Or.inl rfl) ?_
  refine r_iadd dX12_looksAtCol_12 ?_
  obtain ⟨v13, hg13, hr⟩ := bnd hr
  refine r_iald dX12_looksAtCol_13 hg13 ?_
  obtain ⟨q14, hg14, hr⟩ := bnd hr
  refine k_V (ci := 12) (o := a0) (T := TX12) (as := [(0, w32 (4 + (w32 (4 * a1)))), (0, v13)]) (rest := []) (X := (some (2, q14.1), q14.2)) (oX12_looksAt hg14) gX12_looksAt rfl (by decide) rfl (wsl_26 _ (List.mem_of_getElem? (i := 13) rfl)) rfl dX12_looksAtCol_14 rfl ?_
  obtain rfl := Option.some.inj hr
  exact r_ret dX12_looksAtCol_17 rfl (Or.inr ⟨rfl, rfl⟩) (k0 _ hk) ⟨rfl, rfl⟩
end M_X12_looksAtCol
theorem oX12_looksAtCol {l : Launch} {D : va_G} {G : gG} {h : hH} {a0 a1 : Int} {r : Int × hH} (hr : fX12_looksAtCol h a0 a1 = some r) : Ctr l D G true yX12_looksAtCol M_X12_looksAtCol [(22, a0), (0, a1)] h (some (2, r.1), r.2) :=
  Ctr_of (by decide) rfl (fun z => by cases z) (nl rfl) (fun {p e R s m args below meth c A H0} => by
    exact oX12_looksAtCol_b0 (K := fun z9 => z9 = r) (fun r9 z => by rw [z]) hr rfl)
/-! X12_takesConds -/
theorem dX12_takesConds_0 : decode cX12_takesConds 0 = .ok (.aload_n 0, 1) := by decide +kernel
theorem dX12_takesConds_1 : decode cX12_takesConds 1 = .ok (.ldc2_w 159, 3) := by decide +kernel
theorem dX12_takesConds_4 : decode cX12_takesConds 4 = .ok (.invokevirtual 248, 3) := by decide +kernel
theorem dX12_takesConds_7 : decode cX12_takesConds 7 = .ok (.ifCond .ne 5, 3) := by decide +kernel
theorem dX12_takesConds_10 : decode cX12_takesConds 10 = .ok (.iconst 1, 1) := by decide +kernel
theorem dX12_takesConds_11 : decode cX12_takesConds 11 = .ok (.ireturn, 1) := by decide +kernel
theorem dX12_takesConds_12 : decode cX12_takesConds 12 = .ok (.iconst 1, 1) := by decide +kernel
theorem dX12_takesConds_13 : decode cX12_takesConds 13 = .ok (.istore_n 2, 1) := by decide +kernel
theorem dX12_takesConds_14 : decode cX12_takesConds 14 = .ok (.iload_n 2, 1) := by decide +kernel
theorem dX12_takesConds_15 : decode cX12_takesConds 15 = .ok (.ifCond .eq 152, 3) := by decide +kernel
theorem dX12_takesConds_18 : decode cX12_takesConds 18 = .ok (.aload_n 0, 1) := by decide +kernel
theorem dX12_takesConds_19 : decode cX12_takesConds 19 = .ok (.invokevirtual 226, 3) := by decide +kernel
theorem dX12_takesConds_22 : decode cX12_takesConds 22 = .ok (.aload_n 0, 1) := by decide +kernel
theorem dX12_takesConds_23 : decode cX12_takesConds 23 = .ok (.aload_n 0, 1) := by decide +kernel
theorem dX12_takesConds_24 : decode cX12_takesConds 24 = .ok (.getfield 43, 3) := by decide +kernel
theorem dX12_takesConds_27 : decode cX12_takesConds 27 = .ok (.iload_n 1, 1) := by decide +kernel
theorem dX12_takesConds_28 : decode cX12_takesConds 28 = .ok (.iconst 1, 1) := by decide +kernel
theorem dX12_takesConds_29 : decode cX12_takesConds 29 = .ok (.iadd, 1) := by decide +kernel
theorem dX12_takesConds_30 : decode cX12_takesConds 30 = .ok (.iaload, 1) := by decide +kernel
theorem dX12_takesConds_31 : decode cX12_takesConds 31 = .ok (.invokevirtual 355, 3) := by decide +kernel
theorem dX12_takesConds_34 : decode cX12_takesConds 34 = .ok (.ifCond .ne 5, 3) := by decide +kernel
theorem dX12_takesConds_37 : decode cX12_takesConds 37 = .ok (.iconst 0, 1) := by decide +kernel
theorem dX12_takesConds_38 : decode cX12_takesConds 38 = .ok (.ireturn, 1) := by decide +kernel
theorem dX12_takesConds_39 : decode cX12_takesConds 39 = .ok (.aload_n 0, 1) := by decide +kernel
theorem dX12_takesConds_40 : decode cX12_takesConds 40 = .ok (.getfield 43, 3) := by decide +kernel
theorem dX12_takesConds_43 : decode cX12_takesConds 43 = .ok (.iload_n 1, 1) := by decide +kernel
theorem dX12_takesConds_44 : decode cX12_takesConds 44 = .ok (.bipush 7, 2) := by decide +kernel
theorem dX12_takesConds_46 : decode cX12_takesConds 46 = .ok (.iadd, 1) := by decide +kernel
theorem dX12_takesConds_47 : decode cX12_takesConds 47 = .ok (.iaload, 1) := by decide +kernel
theorem dX12_takesConds_48 : decode cX12_takesConds 48 = .ok (.istore_n 3, 1) := by decide +kernel
theorem dX12_takesConds_49 : decode cX12_takesConds 49 = .ok (.iload_n 3, 1) := by decide +kernel
theorem dX12_takesConds_50 : decode cX12_takesConds 50 = .ok (.iconst 4, 1) := by decide +kernel
theorem dX12_takesConds_51 : decode cX12_takesConds 51 = .ok (.if_icmp .ne 9, 3) := by decide +kernel
theorem dX12_takesConds_54 : decode cX12_takesConds 54 = .ok (.aload_n 0, 1) := by decide +kernel
theorem dX12_takesConds_55 : decode cX12_takesConds 55 = .ok (.iconst 4, 1) := by decide +kernel
theorem dX12_takesConds_56 : decode cX12_takesConds 56 = .ok (.invokevirtual 223, 3) := by decide +kernel
theorem dX12_takesConds_59 : decode cX12_takesConds 59 = .ok (.ireturn, 1) := by decide +kernel
theorem dX12_takesConds_60 : decode cX12_takesConds 60 = .ok (.iload_n 1, 1) := by decide +kernel
theorem dX12_takesConds_61 : decode cX12_takesConds 61 = .ok (.bipush 8, 2) := by decide +kernel
theorem dX12_takesConds_63 : decode cX12_takesConds 63 = .ok (.iadd, 1) := by decide +kernel
theorem dX12_takesConds_64 : decode cX12_takesConds 64 = .ok (.iconst 3, 1) := by decide +kernel
theorem dX12_takesConds_65 : decode cX12_takesConds 65 = .ok (.iload_n 3, 1) := by decide +kernel
theorem dX12_takesConds_66 : decode cX12_takesConds 66 = .ok (.imul, 1) := by decide +kernel
theorem dX12_takesConds_67 : decode cX12_takesConds 67 = .ok (.iadd, 1) := by decide +kernel
theorem dX12_takesConds_68 : decode cX12_takesConds 68 = .ok (.istore 4, 2) := by decide +kernel
theorem dX12_takesConds_70 : decode cX12_takesConds 70 = .ok (.aload_n 0, 1) := by decide +kernel
theorem dX12_takesConds_71 : decode cX12_takesConds 71 = .ok (.getfield 43, 3) := by decide +kernel
theorem dX12_takesConds_74 : decode cX12_takesConds 74 = .ok (.iload 4, 2) := by decide +kernel
theorem dX12_takesConds_76 : decode cX12_takesConds 76 = .ok (.aload_n 0, 1) := by decide +kernel
theorem dX12_takesConds_77 : decode cX12_takesConds 77 = .ok (.getfield 233, 3) := by decide +kernel
theorem dX12_takesConds_80 : decode cX12_takesConds 80 = .ok (.iastore, 1) := by decide +kernel
theorem dX12_takesConds_81 : decode cX12_takesConds 81 = .ok (.aload_n 0, 1) := by decide +kernel
theorem dX12_takesConds_82 : decode cX12_takesConds 82 = .ok (.invokevirtual 226, 3) := by decide +kernel
theorem dX12_takesConds_85 : decode cX12_takesConds 85 = .ok (.aload_n 0, 1) := by decide +kernel
theorem dX12_takesConds_86 : decode cX12_takesConds 86 = .ok (.getfield 197, 3) := by decide +kernel
theorem dX12_takesConds_89 : decode cX12_takesConds 89 = .ok (.iconst 3, 1) := by decide +kernel
theorem dX12_takesConds_90 : decode cX12_takesConds 90 = .ok (.if_icmp .ne 17, 3) := by decide +kernel
theorem dX12_takesConds_93 : decode cX12_takesConds 93 = .ok (.aload_n 0, 1) := by decide +kernel
theorem dX12_takesConds_94 : decode cX12_takesConds 94 = .ok (.getfield 207, 3) := by decide +kernel
theorem dX12_takesConds_97 : decode cX12_takesConds 97 = .ok (.bipush 60, 2) := by decide +kernel
theorem dX12_takesConds_99 : decode cX12_takesConds 99 = .ok (.bipush 62, 2) := by decide +kernel
theorem dX12_takesConds_101 : decode cX12_takesConds 101 = .ok (.invokestatic 229, 3) := by decide +kernel
theorem dX12_takesConds_104 : decode cX12_takesConds 104 = .ok (.ifCond .ne 9, 3) := by decide +kernel
theorem dX12_takesConds_107 : decode cX12_takesConds 107 = .ok (.aload_n 0, 1) := by decide +kernel
theorem dX12_takesConds_108 : decode cX12_takesConds 108 = .ok (.iconst 1, 1) := by decide +kernel
theorem dX12_takesConds_109 : decode cX12_takesConds 109 = .ok (.invokevirtual 223, 3) := by decide +kernel
theorem dX12_takesConds_112 : decode cX12_takesConds 112 = .ok (.ireturn, 1) := by decide +kernel
theorem dX12_takesConds_113 : decode cX12_takesConds 113 = .ok (.aload_n 0, 1) := by decide +kernel
theorem dX12_takesConds_114 : decode cX12_takesConds 114 = .ok (.getfield 43, 3) := by decide +kernel
theorem dX12_takesConds_117 : decode cX12_takesConds 117 = .ok (.iload 4, 2) := by decide +kernel
theorem dX12_takesConds_119 : decode cX12_takesConds 119 = .ok (.iconst 1, 1) := by decide +kernel
theorem dX12_takesConds_120 : decode cX12_takesConds 120 = .ok (.iadd, 1) := by decide +kernel
theorem dX12_takesConds_121 : decode cX12_takesConds 121 = .ok (.aload_n 0, 1) := by decide +kernel
theorem dX12_takesConds_122 : decode cX12_takesConds 122 = .ok (.getfield 207, 3) := by decide +kernel
theorem dX12_takesConds_125 : decode cX12_takesConds 125 = .ok (.iastore, 1) := by decide +kernel
theorem dX12_takesConds_126 : decode cX12_takesConds 126 = .ok (.aload_n 0, 1) := by decide +kernel
theorem dX12_takesConds_127 : decode cX12_takesConds 127 = .ok (.invokevirtual 226, 3) := by decide +kernel
theorem dX12_takesConds_130 : decode cX12_takesConds 130 = .ok (.aload_n 0, 1) := by decide +kernel
theorem dX12_takesConds_131 : decode cX12_takesConds 131 = .ok (.iload 4, 2) := by decide +kernel
theorem dX12_takesConds_133 : decode cX12_takesConds 133 = .ok (.iconst 2, 1) := by decide +kernel
theorem dX12_takesConds_134 : decode cX12_takesConds 134 = .ok (.iadd, 1) := by decide +kernel
theorem dX12_takesConds_135 : decode cX12_takesConds 135 = .ok (.invokevirtual 358, 3) := by decide +kernel
theorem dX12_takesConds_138 : decode cX12_takesConds 138 = .ok (.ifCond .ne 5, 3) := by decide +kernel
theorem dX12_takesConds_141 : decode cX12_takesConds 141 = .ok (.iconst 0, 1) := by decide +kernel
theorem dX12_takesConds_142 : decode cX12_takesConds 142 = .ok (.ireturn, 1) := by decide +kernel
theorem dX12_takesConds_143 : decode cX12_takesConds 143 = .ok (.aload_n 0, 1) := by decide +kernel
theorem dX12_takesConds_144 : decode cX12_takesConds 144 = .ok (.getfield 43, 3) := by decide +kernel
theorem dX12_takesConds_147 : decode cX12_takesConds 147 = .ok (.iload_n 1, 1) := by decide +kernel
theorem dX12_takesConds_148 : decode cX12_takesConds 148 = .ok (.bipush 7, 2) := by decide +kernel
theorem dX12_takesConds_150 : decode cX12_takesConds 150 = .ok (.iadd, 1) := by decide +kernel
theorem dX12_takesConds_151 : decode cX12_takesConds 151 = .ok (.dup2, 1) := by decide +kernel
theorem dX12_takesConds_152 : decode cX12_takesConds 152 = .ok (.iaload, 1) := by decide +kernel
theorem dX12_takesConds_153 : decode cX12_takesConds 153 = .ok (.iconst 1, 1) := by decide +kernel
theorem dX12_takesConds_154 : decode cX12_takesConds 154 = .ok (.iadd, 1) := by decide +kernel
theorem dX12_takesConds_155 : decode cX12_takesConds 155 = .ok (.iastore, 1) := by decide +kernel
theorem dX12_takesConds_156 : decode cX12_takesConds 156 = .ok (.aload_n 0, 1) := by decide +kernel
theorem dX12_takesConds_157 : decode cX12_takesConds 157 = .ok (.ldc2_w 161, 3) := by decide +kernel
theorem dX12_takesConds_160 : decode cX12_takesConds 160 = .ok (.invokevirtual 248, 3) := by decide +kernel
theorem dX12_takesConds_163 : decode cX12_takesConds 163 = .ok (.istore_n 2, 1) := by decide +kernel
theorem dX12_takesConds_164 : decode cX12_takesConds 164 = .ok (.goto (-150), 3) := by decide +kernel
theorem dX12_takesConds_167 : decode cX12_takesConds 167 = .ok (.iconst 1, 1) := by decide +kernel
theorem dX12_takesConds_168 : decode cX12_takesConds 168 = .ok (.ireturn, 1) := by decide +kernel
abbrev M_X12_takesConds : mM := (cX12_takesConds, 5, RX12, some .boolean, false, 4, 86, 0, 0)
theorem gX12_takesConds : cI yX12_takesConds M_X12_takesConds 1 := ⟨(wsl_41 _ (List.mem_of_getElem? (i := 12) rfl)), (wsl_41 _ (List.mem_of_getElem? (i := 13) rfl)), (wsl_1 _ (List.mem_of_getElem? (i := 5) rfl)), (wsl_41 _ (List.mem_of_getElem? (i := 14) rfl)), by decide +kernel⟩
noncomputable def fX12_takesConds_b107 (h : hH) (a0 : Int) : Option (Int × hH) :=
  (fX12_bad h a0 1).bind fun q109 =>
  some (q109.1, q109.2)
noncomputable def fX12_takesConds_s14 (h0 : hH) (a0 a1 : Int) : hH × Int → Option ((hH × Int) ⊕ (Int × hH)) := fun (h, l2) =>
  if l2 = 0 then
    some (.inr ((1, h)))
  else
    (fX12_next h a0).bind fun h19 =>
    (aget h19 (h19 a0 9) (w32 (a1 + 1))).bind fun v30 =>
    (fX12_looksAtCol h19 a0 v30).bind fun q31 =>
    if q31.1 = 0 then
      some (.inr ((0, q31.2)))
    else
      (aget q31.2 (q31.2 a0 9) (w32 (a1 + 7))).bind fun v47 =>
      if v47 = 4 then
        (fX12_bad q31.2 a0 4).bind fun q56 =>
        some (.inr ((q56.1, q56.2)))
      else
        (aput q31.2 (q31.2 a0 9) (w32 ((w32 (a1 + 8)) + (w32 (3 * v47)))) (q31.2 a0 19)).bind fun h80 =>
        (fX12_next h80 a0).bind fun h82 =>
        if h82 a0 12 = 3 then
          (fX12_isIn h82 (h82 a0 15) 60 62).bind fun r101 =>
          if r101 = 0 then
            (fX12_takesConds_b107 h82 a0).map (fun z9 => .inr (z9))
          else
            (aput h82 (h82 a0 9) (w32 ((w32 ((w32 (a1 + 8)) + (w32 (3 * v47)))) + 1)) (h82 a0 15)).bind fun h125 =>
            (fX12_next h125 a0).bind fun h127 =>
            (fX12_takesValue h127 a0 (w32 ((w32 ((w32 (a1 + 8)) + (w32 (3 * v47)))) + 2))).bind fun q135 =>
            if q135.1 = 0 then
              some (.inr ((0, q135.2)))
            else
              (aget q135.2 (q135.2 a0 9) (w32 (a1 + 7))).bind fun v152 =>
              (aput q135.2 (q135.2 a0 9) (w32 (a1 + 7)) (w32 (v152 + 1))).bind fun h155 =>
              (fX12_isWord h155 a0 6385252).bind fun r160 =>
              some (.inl (h155, r160))
        else
          (fX12_takesConds_b107 h82 a0).map (fun z9 => .inr (z9))
noncomputable def fX12_takesConds (h : hH) (a0 a1 : Int) : Option (Int × hH) :=
  (fX12_isWord h a0 26982).bind fun r4 =>
  if r4 = 0 then
    some (1, h)
  else
    lpO (fX12_takesConds_s14 h a0 a1) (h, 1)
section M_X12_takesConds
variable {p : Program} {l : Launch} {e : Env} {R : Room} {s : State} {m : MethodId} {args : Array Value} {below : List Frame} {meth : Method} {c : Code} {D : va_G} {G : gG} {A : Nat → Prop} {H0 : Heap} {n0 : Int} {x : Option vV × hH} {h : hH}
set_option maxRecDepth 100000 in
set_option maxHeartbeats 4000000 in
theorem oX12_takesConds_b107 {a0 : Int} {K : Int × hH → Prop} (k0 : ∀ r, K (r) → x = (some (2, r.1), r.2)) {r : Int × hH} (hr : fX12_takesConds_b107 h a0 = some r) (hk : K r) : Wq p l e R s m args below meth c D G A H0 true n0 M_X12_takesConds x 0 0 107 [(0, (22, a0))] [] h := by
  unfold fX12_takesConds_b107 at hr
  refine r_aload_n dX12_takesConds_107 rfl 0 rfl (nl rfl) ?_
  refine r_iconst dX12_takesConds_108 (by decide) ?_
  obtain ⟨q109, hg109, hr⟩ := bnd hr
  refine k_V (ci := 12) (o := a0) (T := TX12) (as := [(0, 1)]) (rest := []) (X := (some (2, q109.1), q109.2)) (oX12_bad hg109) gX12_bad rfl (by decide) rfl (wsl_25 _ (List.mem_of_getElem? (i := 6) rfl)) rfl dX12_takesConds_109 rfl ?_
  obtain rfl := Option.some.inj hr
  exact r_ret dX12_takesConds_112 rfl (Or.inr ⟨rfl, rfl⟩) (k0 _ hk) ⟨rfl, rfl⟩
set_option maxRecDepth 100000 in
set_option maxHeartbeats 4000000 in
theorem oX12_takesConds_s14 {h0 : hH} {a0 a1 l2 : Int} {K : (hH × Int) ⊕ (Int × hH) → Prop} (k0 : ∀ r, K (.inr (r)) → x = (some (2, r.1), r.2)) (k1 : ∀ (h : hH) (l2 : Int), K (.inl (h, l2)) → Wq p l e R s m args below meth c D G A H0 true n0 M_X12_takesConds x 0 0 14 [(0, (22, a0)), (1, (0, a1)), (2, (2, l2))] [] h) {r : (hH × Int) ⊕ (Int × hH)} (hr : fX12_takesConds_s14 h0 a0 a1 (h, l2) = some r) (hk : K r) : Wq p l e R s m args below meth c D G A H0 true n0 M_X12_takesConds x 0 0 14 [(0, (22, a0)), (1, (0, a1)), (2, (2, l2))] [] h := by
  unfold fX12_takesConds_s14 at hr
  refine r_iload_n dX12_takesConds_14 rfl 2 rfl (Or.inr rfl) ?_
  refine r_scast 0 (v := (2, l2)) (w := (0, l2)) rfl zc hTz (st' := [(0, l2)]) rfl ?_
  refine r_if_eq dX12_takesConds_15 (tgt := 167) (by decide) (fun hc => ?_) (fun hc => ?_)
  · have hr := ifp hr hc
    refine r_iconst dX12_takesConds_167 (by decide) ?_
    refine r_scast 0 (v := (0, 1)) (w := (2, 1)) rfl cz (fun _ => Or.inr rfl) (st' := [(2, 1)]) rfl ?_
    obtain rfl := Option.some.inj hr
    exact r_ret dX12_takesConds_168 rfl (Or.inr ⟨rfl, rfl⟩) (k0 _ hk) ⟨rfl, rfl⟩
  · have hr := ifn hr hc
    refine r_aload_n dX12_takesConds_18 rfl 0 rfl (nl rfl) ?_
    obtain ⟨h19, hg19, hr⟩ := bnd hr
    refine k_V (ci := 12) (o := a0) (T := TX12) (as := []) (rest := []) (X := (none, h19)) (oX12_next hg19) gX12_next rfl (by decide) rfl (wsl_24 _ (List.mem_of_getElem? (i := 0) rfl)) rfl dX12_takesConds_19 rfl ?_
    refine r_aload_n dX12_takesConds_22 rfl 0 rfl (nl rfl) ?_
    refine r_aload_n dX12_takesConds_23 rfl 0 rfl (nl rfl) ?_
    refine r_get 12 9 (o := a0) (w := (50, h19 a0 9)) (T := TX12) (ref := "FollowingRefsModel") rfl (by decide) rfl (by decide) inlX12 (wsl_7 _ (List.mem_of_getElem? (i := 11) rfl)) rfl dX12_takesConds_24 rfl ?_
    refine r_iload_n dX12_takesConds_27 rfl 1 rfl (Or.inl rfl) ?_
    refine r_iconst dX12_takesConds_28 (by decide) ?_
    refine r_iadd dX12_takesConds_29 ?_
    obtain ⟨v30, hg30, hr⟩ := bnd hr
    refine r_iald dX12_takesConds_30 hg30 ?_
    obtain ⟨q31, hg31, hr⟩ := bnd hr
    refine k_V (ci := 12) (o := a0) (T := TX12) (as := [(0, v30)]) (rest := []) (X := (some (2, q31.1), q31.2)) (oX12_looksAtCol hg31) gX12_looksAtCol rfl (by decide) rfl (wsl_41 _ (List.mem_of_getElem? (i := 15) rfl)) rfl dX12_takesConds_31 rfl ?_
    refine r_scast 0 (v := (2, q31.1)) (w := (0, q31.1)) rfl zc hTz (st' := [(0, q31.1)]) rfl ?_
    refine r_if_ne dX12_takesConds_34 (tgt := 39) (by decide) (fun hc => ?_) (fun hc => ?_)
    · have hr := ifn hr hc
      refine r_aload_n dX12_takesConds_39 rfl 0 rfl (nl rfl) ?_
      refine r_get 12 9 (o := a0) (w := (50, q31.2 a0 9)) (T := TX12) (ref := "FollowingRefsModel") rfl (by decide) rfl (by decide) inlX12 (wsl_7 _ (List.mem_of_getElem? (i := 11) rfl)) rfl dX12_takesConds_40 rfl ?_
      refine r_iload_n dX12_takesConds_43 rfl 1 rfl (Or.inl rfl) ?_
      refine r_bipush dX12_takesConds_44 (by decide) (by decide) ?_
      refine r_iadd dX12_takesConds_46 ?_
      obtain ⟨v47, hg47, hr⟩ := bnd hr
      refine r_iald dX12_takesConds_47 hg47 ?_
      refine r_istore_n dX12_takesConds_48 rfl (Or.inl rfl) (by decide) (lv' := [(3, (0, v47)), (0, (22, a0)), (1, (0, a1)), (2, (2, l2))]) rfl ?_
      refine r_iload_n dX12_takesConds_49 rfl 0 rfl (Or.inl rfl) ?_
      refine r_iconst dX12_takesConds_50 (by decide) ?_
      refine r_icmp_ne dX12_takesConds_51 (tgt := 60) (by decide) (fun hc => ?_) (fun hc => ?_)
      · have hr := ifn hr hc
        refine r_iload_n dX12_takesConds_60 rfl 2 rfl (Or.inl rfl) ?_
        refine r_bipush dX12_takesConds_61 (by decide) (by decide) ?_
        refine r_iadd dX12_takesConds_63 ?_
        refine r_iconst dX12_takesConds_64 (by decide) ?_
        refine r_iload_n dX12_takesConds_65 rfl 0 rfl (Or.inl rfl) ?_
        refine r_imul dX12_takesConds_66 ?_
        refine r_iadd dX12_takesConds_67 ?_
        refine r_istore dX12_takesConds_68 (Or.inl rfl) (by decide) (lv' := [(4, (0, w32 ((w32 (a1 + 8)) + (w32 (3 * v47))))), (3, (0, v47)), (0, (22, a0)), (1, (0, a1)), (2, (2, l2))]) rfl ?_
        refine r_aload_n dX12_takesConds_70 rfl 2 rfl (nl rfl) ?_
        refine r_get 12 9 (o := a0) (w := (50, q31.2 a0 9)) (T := TX12) (ref := "FollowingRefsModel") rfl (by decide) rfl (by decide) inlX12 (wsl_7 _ (List.mem_of_getElem? (i := 11) rfl)) rfl dX12_takesConds_71 rfl ?_
        refine r_iload dX12_takesConds_74 0 rfl (Or.inl rfl) ?_
        refine r_aload_n dX12_takesConds_76 rfl 2 rfl (nl rfl) ?_
        refine r_get 12 19 (o := a0) (w := (0, q31.2 a0 19)) (T := TX12) (ref := "FollowingRefsModel") rfl (by decide) rfl (by decide) inlX12 (wsl_26 _ (List.mem_of_getElem? (i := 2) rfl)) rfl dX12_takesConds_77 rfl ?_
        obtain ⟨h80, hg80, hr⟩ := bnd hr
        refine r_iast dX12_takesConds_80 hg80 ?_
        refine r_aload_n dX12_takesConds_81 rfl 2 rfl (nl rfl) ?_
        obtain ⟨h82, hg82, hr⟩ := bnd hr
        refine k_V (ci := 12) (o := a0) (T := TX12) (as := []) (rest := []) (X := (none, h82)) (oX12_next hg82) gX12_next rfl (by decide) rfl (wsl_24 _ (List.mem_of_getElem? (i := 0) rfl)) rfl dX12_takesConds_82 rfl ?_
        refine r_aload_n dX12_takesConds_85 rfl 2 rfl (nl rfl) ?_
        refine r_get 12 12 (o := a0) (w := (0, h82 a0 12)) (T := TX12) (ref := "FollowingRefsModel") rfl (by decide) rfl (by decide) inlX12 (wsl_23 _ (List.mem_of_getElem? (i := 14) rfl)) rfl dX12_takesConds_86 rfl ?_
        refine r_iconst dX12_takesConds_89 (by decide) ?_
        refine r_icmp_ne dX12_takesConds_90 (tgt := 107) (by decide) (fun hc => ?_) (fun hc => ?_)
        · have hr := ifn hr hc
          refine r_sub [2] (lv' := [(0, (22, a0))]) rfl ?_
          obtain ⟨r9, hr9, rfl⟩ := mpp hr
          exact oX12_takesConds_b107 (K := fun z9 => K (.inr (z9))) (fun r z => k0 r z) hr9 hk
        · have hr := ifp hr hc
          refine r_aload_n dX12_takesConds_93 rfl 2 rfl (nl rfl) ?_
          refine r_get 12 15 (o := a0) (w := (0, h82 a0 15)) (T := TX12) (ref := "FollowingRefsModel") rfl (by decide) rfl (by decide) inlX12 (wsl_24 _ (List.mem_of_getElem? (i := 6) rfl)) rfl dX12_takesConds_94 rfl ?_
          refine r_bipush dX12_takesConds_97 (by decide) (by decide) ?_
          refine r_bipush dX12_takesConds_99 (by decide) (by decide) ?_
          obtain ⟨r101, hg101, hr⟩ := bnd hr
          refine k_S (as := [(0, h82 a0 15), (0, 60), (0, 62)]) (rest := []) (X := (some (2, r101), h82)) (oX12_isIn hg101) gX12_isIn rfl (wsl_28 _ (List.mem_of_getElem? (i := 1) rfl)) rfl dX12_takesConds_101 rfl ?_
          refine r_scast 0 (v := (2, r101)) (w := (0, r101)) rfl zc hTz (st' := [(0, r101)]) rfl ?_
          refine r_if_ne dX12_takesConds_104 (tgt := 113) (by decide) (fun hc => ?_) (fun hc => ?_)
          · have hr := ifn hr hc
            refine r_aload_n dX12_takesConds_113 rfl 2 rfl (nl rfl) ?_
            refine r_get 12 9 (o := a0) (w := (50, h82 a0 9)) (T := TX12) (ref := "FollowingRefsModel") rfl (by decide) rfl (by decide) inlX12 (wsl_7 _ (List.mem_of_getElem? (i := 11) rfl)) rfl dX12_takesConds_114 rfl ?_
            refine r_iload dX12_takesConds_117 0 rfl (Or.inl rfl) ?_
            refine r_iconst dX12_takesConds_119 (by decide) ?_
            refine r_iadd dX12_takesConds_120 ?_
            refine r_aload_n dX12_takesConds_121 rfl 2 rfl (nl rfl) ?_
            refine r_get 12 15 (o := a0) (w := (0, h82 a0 15)) (T := TX12) (ref := "FollowingRefsModel") rfl (by decide) rfl (by decide) inlX12 (wsl_24 _ (List.mem_of_getElem? (i := 6) rfl)) rfl dX12_takesConds_122 rfl ?_
            obtain ⟨h125, hg125, hr⟩ := bnd hr
            refine r_iast dX12_takesConds_125 hg125 ?_
            refine r_aload_n dX12_takesConds_126 rfl 2 rfl (nl rfl) ?_
            obtain ⟨h127, hg127, hr⟩ := bnd hr
            refine k_V (ci := 12) (o := a0) (T := TX12) (as := []) (rest := []) (X := (none, h127)) (oX12_next hg127) gX12_next rfl (by decide) rfl (wsl_24 _ (List.mem_of_getElem? (i := 0) rfl)) rfl dX12_takesConds_127 rfl ?_
            refine r_aload_n dX12_takesConds_130 rfl 2 rfl (nl rfl) ?_
            refine r_iload dX12_takesConds_131 0 rfl (Or.inl rfl) ?_
            refine r_iconst dX12_takesConds_133 (by decide) ?_
            refine r_iadd dX12_takesConds_134 ?_
            obtain ⟨q135, hg135, hr⟩ := bnd hr
            refine k_V (ci := 12) (o := a0) (T := TX12) (as := [(0, w32 ((w32 ((w32 (a1 + 8)) + (w32 (3 * v47)))) + 2))]) (rest := []) (X := (some (2, q135.1), q135.2)) (oX12_takesValue hg135) gX12_takesValue rfl (by decide) rfl (wsl_41 _ (List.mem_of_getElem? (i := 3) rfl)) rfl dX12_takesConds_135 rfl ?_
            refine r_scast 0 (v := (2, q135.1)) (w := (0, q135.1)) rfl zc hTz (st' := [(0, q135.1)]) rfl ?_
            refine r_if_ne dX12_takesConds_138 (tgt := 143) (by decide) (fun hc => ?_) (fun hc => ?_)
            · have hr := ifn hr hc
              refine r_aload_n dX12_takesConds_143 rfl 2 rfl (nl rfl) ?_
              refine r_get 12 9 (o := a0) (w := (50, q135.2 a0 9)) (T := TX12) (ref := "FollowingRefsModel") rfl (by decide) rfl (by decide) inlX12 (wsl_7 _ (List.mem_of_getElem? (i := 11) rfl)) rfl dX12_takesConds_144 rfl ?_
              refine r_iload_n dX12_takesConds_147 rfl 3 rfl (Or.inl rfl) ?_
              refine r_bipush dX12_takesConds_148 (by decide) (by decide) ?_
              refine r_iadd dX12_takesConds_150 ?_
              refine r_dup2 dX12_takesConds_151 (Nat.ne_of_beq_eq_false rfl) (Nat.ne_of_beq_eq_false rfl) ?_
              obtain ⟨v152, hg152, hr⟩ := bnd hr
              refine r_iald dX12_takesConds_152 hg152 ?_
              refine r_iconst dX12_takesConds_153 (by decide) ?_
              refine r_iadd dX12_takesConds_154 ?_
              obtain ⟨h155, hg155, hr⟩ := bnd hr
              refine r_iast dX12_takesConds_155 hg155 ?_
              refine r_aload_n dX12_takesConds_156 rfl 2 rfl (nl rfl) ?_
              refine r_ldc2' (v := 6385252) dX12_takesConds_157 (by decide) (wsl_9 _ (List.mem_of_getElem? (i := 8) rfl)) ?_
              obtain ⟨r160, hg160, hr⟩ := bnd hr
              refine k_V (ci := 12) (o := a0) (T := TX12) (as := [(1, 6385252)]) (rest := []) (X := (some (2, r160), h155)) (oX12_isWord hg160) gX12_isWord rfl (by decide) rfl (wsl_24 _ (List.mem_of_getElem? (i := 22) rfl)) rfl dX12_takesConds_160 rfl ?_
              refine r_istore_n dX12_takesConds_163 rfl (Or.inr rfl) (by decide) (lv' := [(2, (2, r160)), (4, (0, w32 ((w32 (a1 + 8)) + (w32 (3 * v47))))), (3, (0, v47)), (0, (22, a0)), (1, (0, a1))]) rfl ?_
              refine r_goto dX12_takesConds_164 (tgt := 14) (by decide) ?_
              refine r_sub [3, 4, 0] (lv' := [(0, (22, a0)), (1, (0, a1)), (2, (2, r160))]) rfl ?_
              obtain rfl := Option.some.inj hr
              exact k1 _ _ hk
            · have hr := ifp hr hc
              refine r_iconst dX12_takesConds_141 (by decide) ?_
              refine r_scast 0 (v := (0, 0)) (w := (2, 0)) rfl cz (fun _ => Or.inl rfl) (st' := [(2, 0)]) rfl ?_
              obtain rfl := Option.some.inj hr
              exact r_ret dX12_takesConds_142 rfl (Or.inr ⟨rfl, rfl⟩) (k0 _ hk) ⟨rfl, rfl⟩
          · have hr := ifp hr hc
            refine r_sub [2] (lv' := [(0, (22, a0))]) rfl ?_
            obtain ⟨r9, hr9, rfl⟩ := mpp hr
            exact oX12_takesConds_b107 (K := fun z9 => K (.inr (z9))) (fun r z => k0 r z) hr9 hk
      · have hr := ifp hr hc
        refine r_aload_n dX12_takesConds_54 rfl 1 rfl (nl rfl) ?_
        refine r_iconst dX12_takesConds_55 (by decide) ?_
        obtain ⟨q56, hg56, hr⟩ := bnd hr
        refine k_V (ci := 12) (o := a0) (T := TX12) (as := [(0, 4)]) (rest := []) (X := (some (2, q56.1), q56.2)) (oX12_bad hg56) gX12_bad rfl (by decide) rfl (wsl_25 _ (List.mem_of_getElem? (i := 6) rfl)) rfl dX12_takesConds_56 rfl ?_
        obtain rfl := Option.some.inj hr
        exact r_ret dX12_takesConds_59 rfl (Or.inr ⟨rfl, rfl⟩) (k0 _ hk) ⟨rfl, rfl⟩
    · have hr := ifp hr hc
      refine r_iconst dX12_takesConds_37 (by decide) ?_
      refine r_scast 0 (v := (0, 0)) (w := (2, 0)) rfl cz (fun _ => Or.inl rfl) (st' := [(2, 0)]) rfl ?_
      obtain rfl := Option.some.inj hr
      exact r_ret dX12_takesConds_38 rfl (Or.inr ⟨rfl, rfl⟩) (k0 _ hk) ⟨rfl, rfl⟩
set_option maxRecDepth 100000 in
set_option maxHeartbeats 4000000 in
theorem oX12_takesConds_b0 {a0 a1 : Int} {K : Int × hH → Prop} (k0 : ∀ r, K (r) → x = (some (2, r.1), r.2)) {r : Int × hH} (hr : fX12_takesConds h a0 a1 = some r) (hk : K r) : Wq p l e R s m args below meth c D G A H0 true n0 M_X12_takesConds x 0 0 0 [(0, (22, a0)), (1, (0, a1))] [] h := by
  unfold fX12_takesConds at hr
  refine r_aload_n dX12_takesConds_0 rfl 0 rfl (nl rfl) ?_
  refine r_ldc2' (v := 26982) dX12_takesConds_1 (by decide) (wsl_9 _ (List.mem_of_getElem? (i := 7) rfl)) ?_
  obtain ⟨r4, hg4, hr⟩ := bnd hr
  refine k_V (ci := 12) (o := a0) (T := TX12) (as := [(1, 26982)]) (rest := []) (X := (some (2, r4), h)) (oX12_isWord hg4) gX12_isWord rfl (by decide) rfl (wsl_24 _ (List.mem_of_getElem? (i := 22) rfl)) rfl dX12_takesConds_4 rfl ?_
  refine r_scast 0 (v := (2, r4)) (w := (0, r4)) rfl zc hTz (st' := [(0, r4)]) rfl ?_
  refine r_if_ne dX12_takesConds_7 (tgt := 12) (by decide) (fun hc => ?_) (fun hc => ?_)
  · have hr := ifn hr hc
    refine r_iconst dX12_takesConds_12 (by decide) ?_
    refine r_istore_n dX12_takesConds_13 rfl (Or.inl rfl) (by decide) (lv' := [(2, (0, 1)), (0, (22, a0)), (1, (0, a1))]) rfl ?_
    refine r_lcast 0 (v := (0, 1)) (w := (2, 1)) rfl cz (fun _ => Or.inr rfl) (lv' := [(2, (2, 1)), (0, (22, a0)), (1, (0, a1))]) rfl ?_
    refine r_sub [1, 2, 0] (lv' := [(0, (22, a0)), (1, (0, a1)), (2, (2, 1))]) rfl ?_
    exact lp_ok (w := fun (q : hH × Int) => Wq p l e R s m args below meth c D G A H0 true n0 M_X12_takesConds x 0 0 14 [(0, (22, a0)), (1, (0, a1)), (2, (2, q.2))] [] (q.1)) (K := K) (fun ⟨q0, q1⟩ r h1 h2 => oX12_takesConds_s14 (K := Sum.elim (fun (q : hH × Int) => Wq p l e R s m args below meth c D G A H0 true n0 M_X12_takesConds x 0 0 14 [(0, (22, a0)), (1, (0, a1)), (2, (2, q.2))] [] (q.1)) (K)) (fun r z => k0 r z) (fun _ _ z => z) h1 h2) hr hk
  · have hr := ifp hr hc
    refine r_iconst dX12_takesConds_10 (by decide) ?_
    refine r_scast 0 (v := (0, 1)) (w := (2, 1)) rfl cz (fun _ => Or.inr rfl) (st' := [(2, 1)]) rfl ?_
    obtain rfl := Option.some.inj hr
    exact r_ret dX12_takesConds_11 rfl (Or.inr ⟨rfl, rfl⟩) (k0 _ hk) ⟨rfl, rfl⟩
end M_X12_takesConds
theorem oX12_takesConds {l : Launch} {D : va_G} {G : gG} {h : hH} {a0 a1 : Int} {r : Int × hH} (hr : fX12_takesConds h a0 a1 = some r) : Ctr l D G true yX12_takesConds M_X12_takesConds [(22, a0), (0, a1)] h (some (2, r.1), r.2) :=
  Ctr_of (by decide) rfl (fun z => by cases z) (nl rfl) (fun {p e R s m args below meth c A H0} => by
    exact oX12_takesConds_b0 (K := fun z9 => z9 = r) (fun r9 z => by rw [z]) hr rfl)
/-! X12_takesInsert -/
theorem dX12_takesInsert_0 : decode cX12_takesInsert 0 = .ok (.aload_n 0, 1) := by decide +kernel
theorem dX12_takesInsert_1 : decode cX12_takesInsert 1 = .ok (.invokevirtual 226, 3) := by decide +kernel
theorem dX12_takesInsert_4 : decode cX12_takesInsert 4 = .ok (.aload_n 0, 1) := by decide +kernel
theorem dX12_takesInsert_5 : decode cX12_takesInsert 5 = .ok (.getfield 43, 3) := by decide +kernel
theorem dX12_takesInsert_8 : decode cX12_takesInsert 8 = .ok (.iload_n 1, 1) := by decide +kernel
theorem dX12_takesInsert_9 : decode cX12_takesInsert 9 = .ok (.iconst 0, 1) := by decide +kernel
theorem dX12_takesInsert_10 : decode cX12_takesInsert 10 = .ok (.iastore, 1) := by decide +kernel
theorem dX12_takesInsert_11 : decode cX12_takesInsert 11 = .ok (.aload_n 0, 1) := by decide +kernel
theorem dX12_takesInsert_12 : decode cX12_takesInsert 12 = .ok (.iload_n 1, 1) := by decide +kernel
theorem dX12_takesInsert_13 : decode cX12_takesInsert 13 = .ok (.invokevirtual 361, 3) := by decide +kernel
theorem dX12_takesInsert_16 : decode cX12_takesInsert 16 = .ok (.ifCond .ne 5, 3) := by decide +kernel
theorem dX12_takesInsert_19 : decode cX12_takesInsert 19 = .ok (.iconst 0, 1) := by decide +kernel
theorem dX12_takesInsert_20 : decode cX12_takesInsert 20 = .ok (.ireturn, 1) := by decide +kernel
theorem dX12_takesInsert_21 : decode cX12_takesInsert 21 = .ok (.iconst 0, 1) := by decide +kernel
theorem dX12_takesInsert_22 : decode cX12_takesInsert 22 = .ok (.istore_n 2, 1) := by decide +kernel
theorem dX12_takesInsert_23 : decode cX12_takesInsert 23 = .ok (.iload_n 2, 1) := by decide +kernel
theorem dX12_takesInsert_24 : decode cX12_takesInsert 24 = .ok (.aload_n 0, 1) := by decide +kernel
theorem dX12_takesInsert_25 : decode cX12_takesInsert 25 = .ok (.getfield 33, 3) := by decide +kernel
theorem dX12_takesInsert_28 : decode cX12_takesInsert 28 = .ok (.iconst 4, 1) := by decide +kernel
theorem dX12_takesInsert_29 : decode cX12_takesInsert 29 = .ok (.aload_n 0, 1) := by decide +kernel
theorem dX12_takesInsert_30 : decode cX12_takesInsert 30 = .ok (.getfield 43, 3) := by decide +kernel
theorem dX12_takesInsert_33 : decode cX12_takesInsert 33 = .ok (.iload_n 1, 1) := by decide +kernel
theorem dX12_takesInsert_34 : decode cX12_takesInsert 34 = .ok (.iconst 1, 1) := by decide +kernel
theorem dX12_takesInsert_35 : decode cX12_takesInsert 35 = .ok (.iadd, 1) := by decide +kernel
theorem dX12_takesInsert_36 : decode cX12_takesInsert 36 = .ok (.iaload, 1) := by decide +kernel
theorem dX12_takesInsert_37 : decode cX12_takesInsert 37 = .ok (.iadd, 1) := by decide +kernel
theorem dX12_takesInsert_38 : decode cX12_takesInsert 38 = .ok (.iaload, 1) := by decide +kernel
theorem dX12_takesInsert_39 : decode cX12_takesInsert 39 = .ok (.if_icmp .ge 23, 3) := by decide +kernel
theorem dX12_takesInsert_42 : decode cX12_takesInsert 42 = .ok (.aload_n 0, 1) := by decide +kernel
theorem dX12_takesInsert_43 : decode cX12_takesInsert 43 = .ok (.iload_n 1, 1) := by decide +kernel
theorem dX12_takesInsert_44 : decode cX12_takesInsert 44 = .ok (.iconst 3, 1) := by decide +kernel
theorem dX12_takesInsert_45 : decode cX12_takesInsert 45 = .ok (.iadd, 1) := by decide +kernel
theorem dX12_takesInsert_46 : decode cX12_takesInsert 46 = .ok (.iload_n 2, 1) := by decide +kernel
theorem dX12_takesInsert_47 : decode cX12_takesInsert 47 = .ok (.iadd, 1) := by decide +kernel
theorem dX12_takesInsert_48 : decode cX12_takesInsert 48 = .ok (.invokevirtual 358, 3) := by decide +kernel
theorem dX12_takesInsert_51 : decode cX12_takesInsert 51 = .ok (.ifCond .ne 5, 3) := by decide +kernel
theorem dX12_takesInsert_54 : decode cX12_takesInsert 54 = .ok (.iconst 0, 1) := by decide +kernel
theorem dX12_takesInsert_55 : decode cX12_takesInsert 55 = .ok (.ireturn, 1) := by decide +kernel
theorem dX12_takesInsert_56 : decode cX12_takesInsert 56 = .ok (.iinc 2 1, 3) := by decide +kernel
theorem dX12_takesInsert_59 : decode cX12_takesInsert 59 = .ok (.goto (-36), 3) := by decide +kernel
theorem dX12_takesInsert_62 : decode cX12_takesInsert 62 = .ok (.iconst 1, 1) := by decide +kernel
theorem dX12_takesInsert_63 : decode cX12_takesInsert 63 = .ok (.ireturn, 1) := by decide +kernel
abbrev M_X12_takesInsert : mM := (cX12_takesInsert, 3, RX12, some .boolean, false, 4, 88, 0, 0)
theorem gX12_takesInsert : cI yX12_takesInsert M_X12_takesInsert 1 := ⟨(wsl_40 _ (List.mem_of_getElem? (i := 20) rfl)), (wsl_40 _ (List.mem_of_getElem? (i := 21) rfl)), (wsl_1 _ (List.mem_of_getElem? (i := 5) rfl)), (wsl_40 _ (List.mem_of_getElem? (i := 22) rfl)), by decide +kernel⟩
noncomputable def fX12_takesInsert_s23 (h0 : hH) (a0 a1 : Int) : hH × Int → Option ((hH × Int) ⊕ (Int × hH)) := fun (h, l2) =>
  (aget h (h a0 9) (w32 (a1 + 1))).bind fun v36 =>
  (aget h (h a0 6) (w32 (4 + v36))).bind fun v38 =>
  if l2 < v38 then
    (fX12_takesValue h a0 (w32 ((w32 (a1 + 3)) + l2))).bind fun q48 =>
    if q48.1 = 0 then
      some (.inr ((0, q48.2)))
    else
      some (.inl (q48.2, w32 (l2 + 1)))
  else
    some (.inr ((1, h)))
noncomputable def fX12_takesInsert (h : hH) (a0 a1 : Int) : Option (Int × hH) :=
  (fX12_next h a0).bind fun h1 =>
  (aput h1 (h1 a0 9) a1 0).bind fun h10 =>
  (fX12_takesOwnTable h10 a0 a1).bind fun q13 =>
  if q13.1 = 0 then
    some (0, q13.2)
  else
    lpO (fX12_takesInsert_s23 q13.2 a0 a1) (q13.2, 0)
section M_X12_takesInsert
variable {p : Program} {l : Launch} {e : Env} {R : Room} {s : State} {m : MethodId} {args : Array Value} {below : List Frame} {meth : Method} {c : Code} {D : va_G} {G : gG} {A : Nat → Prop} {H0 : Heap} {n0 : Int} {x : Option vV × hH} {h : hH}
set_option maxRecDepth 100000 in
set_option maxHeartbeats 4000000 in
theorem oX12_takesInsert_s23 {h0 : hH} {a0 a1 l2 : Int} {K : (hH × Int) ⊕ (Int × hH) → Prop} (k0 : ∀ r, K (.inr (r)) → x = (some (2, r.1), r.2)) (k1 : ∀ (h : hH) (l2 : Int), K (.inl (h, l2)) → Wq p l e R s m args below meth c D G A H0 true n0 M_X12_takesInsert x 0 0 23 [(0, (22, a0)), (1, (0, a1)), (2, (0, l2))] [] h) {r : (hH × Int) ⊕ (Int × hH)} (hr : fX12_takesInsert_s23 h0 a0 a1 (h, l2) = some r) (hk : K r) : Wq p l e R s m args below meth c D G A H0 true n0 M_X12_takesInsert x 0 0 23 [(0, (22, a0)), (1, (0, a1)), (2, (0, l2))] [] h := by
  unfold fX12_takesInsert_s23 at hr
  refine r_iload_n dX12_takesInsert_23 rfl 2 rfl (Or.inl rfl) ?_
  refine r_aload_n dX12_takesInsert_24 rfl 0 rfl (nl rfl) ?_
  refine r_get 12 6 (o := a0) (w := (50, h a0 6)) (T := TX12) (ref := "FollowingRefsModel") rfl (by decide) rfl (by decide) inlX12 (wsl_7 _ (List.mem_of_getElem? (i := 8) rfl)) rfl dX12_takesInsert_25 rfl ?_
  refine r_iconst dX12_takesInsert_28 (by decide) ?_
  refine r_aload_n dX12_takesInsert_29 rfl 0 rfl (nl rfl) ?_
  refine r_get 12 9 (o := a0) (w := (50, h a0 9)) (T := TX12) (ref := "FollowingRefsModel") rfl (by decide) rfl (by decide) inlX12 (wsl_7 _ (List.mem_of_getElem? (i := 11) rfl)) rfl dX12_takesInsert_30 rfl ?_
  refine r_iload_n dX12_takesInsert_33 rfl 1 rfl (Or.inl rfl) ?_
  refine r_iconst dX12_takesInsert_34 (by decide) ?_
  refine r_iadd dX12_takesInsert_35 ?_
  obtain ⟨v36, hg36, hr⟩ := bnd hr
  refine r_iald dX12_takesInsert_36 hg36 ?_
  refine r_iadd dX12_takesInsert_37 ?_
  obtain ⟨v38, hg38, hr⟩ := bnd hr
  refine r_iald dX12_takesInsert_38 hg38 ?_
  refine r_icmp_ge dX12_takesInsert_39 (tgt := 62) (by decide) (fun hc => ?_) (fun hc => ?_)
  · have hr := ifn hr hc
    refine r_iconst dX12_takesInsert_62 (by decide) ?_
    refine r_scast 0 (v := (0, 1)) (w := (2, 1)) rfl cz (fun _ => Or.inr rfl) (st' := [(2, 1)]) rfl ?_
    obtain rfl := Option.some.inj hr
    exact r_ret dX12_takesInsert_63 rfl (Or.inr ⟨rfl, rfl⟩) (k0 _ hk) ⟨rfl, rfl⟩
  · have hr := ifp hr hc
    refine r_aload_n dX12_takesInsert_42 rfl 0 rfl (nl rfl) ?_
    refine r_iload_n dX12_takesInsert_43 rfl 1 rfl (Or.inl rfl) ?_
    refine r_iconst dX12_takesInsert_44 (by decide) ?_
    refine r_iadd dX12_takesInsert_45 ?_
    refine r_iload_n dX12_takesInsert_46 rfl 2 rfl (Or.inl rfl) ?_
    refine r_iadd dX12_takesInsert_47 ?_
    obtain ⟨q48, hg48, hr⟩ := bnd hr
    refine k_V (ci := 12) (o := a0) (T := TX12) (as := [(0, w32 ((w32 (a1 + 3)) + l2))]) (rest := []) (X := (some (2, q48.1), q48.2)) (oX12_takesValue hg48) gX12_takesValue rfl (by decide) rfl (wsl_41 _ (List.mem_of_getElem? (i := 3) rfl)) rfl dX12_takesInsert_48 rfl ?_
    refine r_scast 0 (v := (2, q48.1)) (w := (0, q48.1)) rfl zc hTz (st' := [(0, q48.1)]) rfl ?_
    refine r_if_ne dX12_takesInsert_51 (tgt := 56) (by decide) (fun hc => ?_) (fun hc => ?_)
    · have hr := ifn hr hc
      refine r_iinc (k := 2) (v := l2) dX12_takesInsert_56 rfl (by decide) (lv' := [(2, (0, w32 (l2 + 1))), (0, (22, a0)), (1, (0, a1))]) rfl ?_
      refine r_goto dX12_takesInsert_59 (tgt := 23) (by decide) ?_
      refine r_sub [1, 2, 0] (lv' := [(0, (22, a0)), (1, (0, a1)), (2, (0, w32 (l2 + 1)))]) rfl ?_
      obtain rfl := Option.some.inj hr
      exact k1 _ _ hk
    · have hr := ifp hr hc
      refine r_iconst dX12_takesInsert_54 (by decide) ?_
      refine r_scast 0 (v := (0, 0)) (w := (2, 0)) rfl cz (fun _ => Or.inl rfl) (st' := [(2, 0)]) rfl ?_
      obtain rfl := Option.some.inj hr
      exact r_ret dX12_takesInsert_55 rfl (Or.inr ⟨rfl, rfl⟩) (k0 _ hk) ⟨rfl, rfl⟩
set_option maxRecDepth 100000 in
set_option maxHeartbeats 4000000 in
theorem oX12_takesInsert_b0 {a0 a1 : Int} {K : Int × hH → Prop} (k0 : ∀ r, K (r) → x = (some (2, r.1), r.2)) {r : Int × hH} (hr : fX12_takesInsert h a0 a1 = some r) (hk : K r) : Wq p l e R s m args below meth c D G A H0 true n0 M_X12_takesInsert x 0 0 0 [(0, (22, a0)), (1, (0, a1))] [] h := by
  unfold fX12_takesInsert at hr
  refine r_aload_n dX12_takesInsert_0 rfl 0 rfl (nl rfl) ?_
  obtain ⟨h1, hg1, hr⟩ := bnd hr
  refine k_V (ci := 12) (o := a0) (T := TX12) (as := []) (rest := []) (X := (none, h1)) (oX12_next hg1) gX12_next rfl (by decide) rfl (wsl_24 _ (List.mem_of_getElem? (i := 0) rfl)) rfl dX12_takesInsert_1 rfl ?_
  refine r_aload_n dX12_takesInsert_4 rfl 0 rfl (nl rfl) ?_
  refine r_get 12 9 (o := a0) (w := (50, h1 a0 9)) (T := TX12) (ref := "FollowingRefsModel") rfl (by decide) rfl (by decide) inlX12 (wsl_7 _ (List.mem_of_getElem? (i := 11) rfl)) rfl dX12_takesInsert_5 rfl ?_
  refine r_iload_n dX12_takesInsert_8 rfl 1 rfl (Or.inl rfl) ?_
  refine r_iconst dX12_takesInsert_9 (by decide) ?_
  obtain ⟨h10, hg10, hr⟩ := bnd hr
  refine r_iast dX12_takesInsert_10 hg10 ?_
  refine r_aload_n dX12_takesInsert_11 rfl 0 rfl (nl rfl) ?_
  refine r_iload_n dX12_takesInsert_12 rfl 1 rfl (Or.inl rfl) ?_
  obtain ⟨q13, hg13, hr⟩ := bnd hr
  refine k_V (ci := 12) (o := a0) (T := TX12) (as := [(0, a1)]) (rest := []) (X := (some (2, q13.1), q13.2)) (oX12_takesOwnTable hg13) gX12_takesOwnTable rfl (by decide) rfl (wsl_40 _ (List.mem_of_getElem? (i := 23) rfl)) rfl dX12_takesInsert_13 rfl ?_
  refine r_scast 0 (v := (2, q13.1)) (w := (0, q13.1)) rfl zc hTz (st' := [(0, q13.1)]) rfl ?_
  refine r_if_ne dX12_takesInsert_16 (tgt := 21) (by decide) (fun hc => ?_) (fun hc => ?_)
  · have hr := ifn hr hc
    refine r_iconst dX12_takesInsert_21 (by decide) ?_
    refine r_istore_n dX12_takesInsert_22 rfl (Or.inl rfl) (by decide) (lv' := [(2, (0, 0)), (0, (22, a0)), (1, (0, a1))]) rfl ?_
    refine r_sub [1, 2, 0] (lv' := [(0, (22, a0)), (1, (0, a1)), (2, (0, 0))]) rfl ?_
    exact lp_ok (w := fun (q : hH × Int) => Wq p l e R s m args below meth c D G A H0 true n0 M_X12_takesInsert x 0 0 23 [(0, (22, a0)), (1, (0, a1)), (2, (0, q.2))] [] (q.1)) (K := K) (fun ⟨q0, q1⟩ r h1 h2 => oX12_takesInsert_s23 (K := Sum.elim (fun (q : hH × Int) => Wq p l e R s m args below meth c D G A H0 true n0 M_X12_takesInsert x 0 0 23 [(0, (22, a0)), (1, (0, a1)), (2, (0, q.2))] [] (q.1)) (K)) (fun r z => k0 r z) (fun _ _ z => z) h1 h2) hr hk
  · have hr := ifp hr hc
    refine r_iconst dX12_takesInsert_19 (by decide) ?_
    refine r_scast 0 (v := (0, 0)) (w := (2, 0)) rfl cz (fun _ => Or.inl rfl) (st' := [(2, 0)]) rfl ?_
    obtain rfl := Option.some.inj hr
    exact r_ret dX12_takesInsert_20 rfl (Or.inr ⟨rfl, rfl⟩) (k0 _ hk) ⟨rfl, rfl⟩
end M_X12_takesInsert
theorem oX12_takesInsert {l : Launch} {D : va_G} {G : gG} {h : hH} {a0 a1 : Int} {r : Int × hH} (hr : fX12_takesInsert h a0 a1 = some r) : Ctr l D G true yX12_takesInsert M_X12_takesInsert [(22, a0), (0, a1)] h (some (2, r.1), r.2) :=
  Ctr_of (by decide) rfl (fun z => by cases z) (nl rfl) (fun {p e R s m args below meth c A H0} => by
    exact oX12_takesInsert_b0 (K := fun z9 => z9 = r) (fun r9 z => by rw [z]) hr rfl)
/-! X12_takesDelete -/
theorem dX12_takesDelete_0 : decode cX12_takesDelete 0 = .ok (.aload_n 0, 1) := by decide +kernel
theorem dX12_takesDelete_1 : decode cX12_takesDelete 1 = .ok (.invokevirtual 226, 3) := by decide +kernel
theorem dX12_takesDelete_4 : decode cX12_takesDelete 4 = .ok (.aload_n 0, 1) := by decide +kernel
theorem dX12_takesDelete_5 : decode cX12_takesDelete 5 = .ok (.getfield 43, 3) := by decide +kernel
theorem dX12_takesDelete_8 : decode cX12_takesDelete 8 = .ok (.iload_n 1, 1) := by decide +kernel
theorem dX12_takesDelete_9 : decode cX12_takesDelete 9 = .ok (.iconst 1, 1) := by decide +kernel
theorem dX12_takesDelete_10 : decode cX12_takesDelete 10 = .ok (.iastore, 1) := by decide +kernel
theorem dX12_takesDelete_11 : decode cX12_takesDelete 11 = .ok (.aload_n 0, 1) := by decide +kernel
theorem dX12_takesDelete_12 : decode cX12_takesDelete 12 = .ok (.iload_n 1, 1) := by decide +kernel
theorem dX12_takesDelete_13 : decode cX12_takesDelete 13 = .ok (.invokevirtual 361, 3) := by decide +kernel
theorem dX12_takesDelete_16 : decode cX12_takesDelete 16 = .ok (.ifCond .eq 15, 3) := by decide +kernel
theorem dX12_takesDelete_19 : decode cX12_takesDelete 19 = .ok (.aload_n 0, 1) := by decide +kernel
theorem dX12_takesDelete_20 : decode cX12_takesDelete 20 = .ok (.iload_n 1, 1) := by decide +kernel
theorem dX12_takesDelete_21 : decode cX12_takesDelete 21 = .ok (.invokevirtual 364, 3) := by decide +kernel
theorem dX12_takesDelete_24 : decode cX12_takesDelete 24 = .ok (.ifCond .eq 7, 3) := by decide +kernel
theorem dX12_takesDelete_27 : decode cX12_takesDelete 27 = .ok (.iconst 1, 1) := by decide +kernel
theorem dX12_takesDelete_28 : decode cX12_takesDelete 28 = .ok (.goto 4, 3) := by decide +kernel
theorem dX12_takesDelete_31 : decode cX12_takesDelete 31 = .ok (.iconst 0, 1) := by decide +kernel
theorem dX12_takesDelete_32 : decode cX12_takesDelete 32 = .ok (.ireturn, 1) := by decide +kernel
abbrev M_X12_takesDelete : mM := (cX12_takesDelete, 2, RX12, some .boolean, false, 5, 110, 0, 0)
theorem gX12_takesDelete : cI yX12_takesDelete M_X12_takesDelete 1 := ⟨(wsl_41 _ (List.mem_of_getElem? (i := 8) rfl)), (wsl_41 _ (List.mem_of_getElem? (i := 9) rfl)), (wsl_1 _ (List.mem_of_getElem? (i := 5) rfl)), (wsl_41 _ (List.mem_of_getElem? (i := 10) rfl)), by decide +kernel⟩
noncomputable def fX12_takesDelete (h : hH) (a0 a1 : Int) : Option (Int × hH) :=
  (fX12_next h a0).bind fun h1 =>
  (aput h1 (h1 a0 9) a1 1).bind fun h10 =>
  (fX12_takesOwnTable h10 a0 a1).bind fun q13 =>
  if q13.1 = 0 then
    some (0, q13.2)
  else
    (fX12_takesConds q13.2 a0 a1).bind fun q21 =>
    if q21.1 = 0 then
      some (0, q21.2)
    else
      some (1, q21.2)
section M_X12_takesDelete
variable {p : Program} {l : Launch} {e : Env} {R : Room} {s : State} {m : MethodId} {args : Array Value} {below : List Frame} {meth : Method} {c : Code} {D : va_G} {G : gG} {A : Nat → Prop} {H0 : Heap} {n0 : Int} {x : Option vV × hH} {h : hH}
set_option maxRecDepth 100000 in
set_option maxHeartbeats 4000000 in
theorem oX12_takesDelete_b0 {a0 a1 : Int} {K : Int × hH → Prop} (k0 : ∀ r, K (r) → x = (some (2, r.1), r.2)) {r : Int × hH} (hr : fX12_takesDelete h a0 a1 = some r) (hk : K r) : Wq p l e R s m args below meth c D G A H0 true n0 M_X12_takesDelete x 0 0 0 [(0, (22, a0)), (1, (0, a1))] [] h := by
  unfold fX12_takesDelete at hr
  refine r_aload_n dX12_takesDelete_0 rfl 0 rfl (nl rfl) ?_
  obtain ⟨h1, hg1, hr⟩ := bnd hr
  refine k_V (ci := 12) (o := a0) (T := TX12) (as := []) (rest := []) (X := (none, h1)) (oX12_next hg1) gX12_next rfl (by decide) rfl (wsl_24 _ (List.mem_of_getElem? (i := 0) rfl)) rfl dX12_takesDelete_1 rfl ?_
  refine r_aload_n dX12_takesDelete_4 rfl 0 rfl (nl rfl) ?_
  refine r_get 12 9 (o := a0) (w := (50, h1 a0 9)) (T := TX12) (ref := "FollowingRefsModel") rfl (by decide) rfl (by decide) inlX12 (wsl_7 _ (List.mem_of_getElem? (i := 11) rfl)) rfl dX12_takesDelete_5 rfl ?_
  refine r_iload_n dX12_takesDelete_8 rfl 1 rfl (Or.inl rfl) ?_
  refine r_iconst dX12_takesDelete_9 (by decide) ?_
  obtain ⟨h10, hg10, hr⟩ := bnd hr
  refine r_iast dX12_takesDelete_10 hg10 ?_
  refine r_aload_n dX12_takesDelete_11 rfl 0 rfl (nl rfl) ?_
  refine r_iload_n dX12_takesDelete_12 rfl 1 rfl (Or.inl rfl) ?_
  obtain ⟨q13, hg13, hr⟩ := bnd hr
  refine k_V (ci := 12) (o := a0) (T := TX12) (as := [(0, a1)]) (rest := []) (X := (some (2, q13.1), q13.2)) (oX12_takesOwnTable hg13) gX12_takesOwnTable rfl (by decide) rfl (wsl_40 _ (List.mem_of_getElem? (i := 23) rfl)) rfl dX12_takesDelete_13 rfl ?_
  refine r_scast 0 (v := (2, q13.1)) (w := (0, q13.1)) rfl zc hTz (st' := [(0, q13.1)]) rfl ?_
  refine r_if_eq dX12_takesDelete_16 (tgt := 31) (by decide) (fun hc => ?_) (fun hc => ?_)
  · have hr := ifp hr hc
    refine r_iconst dX12_takesDelete_31 (by decide) ?_
    refine r_scast 0 (v := (0, 0)) (w := (2, 0)) rfl cz (fun _ => Or.inl rfl) (st' := [(2, 0)]) rfl ?_
    obtain rfl := Option.some.inj hr
    exact r_ret dX12_takesDelete_32 rfl (Or.inr ⟨rfl, rfl⟩) (k0 _ hk) ⟨rfl, rfl⟩
  · have hr := ifn hr hc
    refine r_aload_n dX12_takesDelete_19 rfl 0 rfl (nl rfl) ?_
    refine r_iload_n dX12_takesDelete_20 rfl 1 rfl (Or.inl rfl) ?_
    obtain ⟨q21, hg21, hr⟩ := bnd hr
    refine k_V (ci := 12) (o := a0) (T := TX12) (as := [(0, a1)]) (rest := []) (X := (some (2, q21.1), q21.2)) (oX12_takesConds hg21) gX12_takesConds rfl (by decide) rfl (wsl_41 _ (List.mem_of_getElem? (i := 11) rfl)) rfl dX12_takesDelete_21 rfl ?_
    refine r_scast 0 (v := (2, q21.1)) (w := (0, q21.1)) rfl zc hTz (st' := [(0, q21.1)]) rfl ?_
    refine r_if_eq dX12_takesDelete_24 (tgt := 31) (by decide) (fun hc => ?_) (fun hc => ?_)
    · have hr := ifp hr hc
      refine r_iconst dX12_takesDelete_31 (by decide) ?_
      refine r_scast 0 (v := (0, 0)) (w := (2, 0)) rfl cz (fun _ => Or.inl rfl) (st' := [(2, 0)]) rfl ?_
      obtain rfl := Option.some.inj hr
      exact r_ret dX12_takesDelete_32 rfl (Or.inr ⟨rfl, rfl⟩) (k0 _ hk) ⟨rfl, rfl⟩
    · have hr := ifn hr hc
      refine r_iconst dX12_takesDelete_27 (by decide) ?_
      refine r_goto dX12_takesDelete_28 (tgt := 32) (by decide) ?_
      refine r_scast 0 (v := (0, 1)) (w := (2, 1)) rfl cz (fun _ => Or.inr rfl) (st' := [(2, 1)]) rfl ?_
      obtain rfl := Option.some.inj hr
      exact r_ret dX12_takesDelete_32 rfl (Or.inr ⟨rfl, rfl⟩) (k0 _ hk) ⟨rfl, rfl⟩
end M_X12_takesDelete
theorem oX12_takesDelete {l : Launch} {D : va_G} {G : gG} {h : hH} {a0 a1 : Int} {r : Int × hH} (hr : fX12_takesDelete h a0 a1 = some r) : Ctr l D G true yX12_takesDelete M_X12_takesDelete [(22, a0), (0, a1)] h (some (2, r.1), r.2) :=
  Ctr_of (by decide) rfl (fun z => by cases z) (nl rfl) (fun {p e R s m args below meth c A H0} => by
    exact oX12_takesDelete_b0 (K := fun z9 => z9 = r) (fun r9 z => by rw [z]) hr rfl)
/-! X12_takesSet -/
theorem dX12_takesSet_0 : decode cX12_takesSet 0 = .ok (.aload_n 0, 1) := by decide +kernel
theorem dX12_takesSet_1 : decode cX12_takesSet 1 = .ok (.invokevirtual 226, 3) := by decide +kernel
theorem dX12_takesSet_4 : decode cX12_takesSet 4 = .ok (.aload_n 0, 1) := by decide +kernel
theorem dX12_takesSet_5 : decode cX12_takesSet 5 = .ok (.getfield 43, 3) := by decide +kernel
theorem dX12_takesSet_8 : decode cX12_takesSet 8 = .ok (.iload_n 1, 1) := by decide +kernel
theorem dX12_takesSet_9 : decode cX12_takesSet 9 = .ok (.iconst 2, 1) := by decide +kernel
theorem dX12_takesSet_10 : decode cX12_takesSet 10 = .ok (.iastore, 1) := by decide +kernel
theorem dX12_takesSet_11 : decode cX12_takesSet 11 = .ok (.aload_n 0, 1) := by decide +kernel
theorem dX12_takesSet_12 : decode cX12_takesSet 12 = .ok (.iload_n 1, 1) := by decide +kernel
theorem dX12_takesSet_13 : decode cX12_takesSet 13 = .ok (.invokevirtual 361, 3) := by decide +kernel
theorem dX12_takesSet_16 : decode cX12_takesSet 16 = .ok (.ifCond .ne 5, 3) := by decide +kernel
theorem dX12_takesSet_19 : decode cX12_takesSet 19 = .ok (.iconst 0, 1) := by decide +kernel
theorem dX12_takesSet_20 : decode cX12_takesSet 20 = .ok (.ireturn, 1) := by decide +kernel
theorem dX12_takesSet_21 : decode cX12_takesSet 21 = .ok (.aload_n 0, 1) := by decide +kernel
theorem dX12_takesSet_22 : decode cX12_takesSet 22 = .ok (.getfield 43, 3) := by decide +kernel
theorem dX12_takesSet_25 : decode cX12_takesSet 25 = .ok (.iload_n 1, 1) := by decide +kernel
theorem dX12_takesSet_26 : decode cX12_takesSet 26 = .ok (.iconst 1, 1) := by decide +kernel
theorem dX12_takesSet_27 : decode cX12_takesSet 27 = .ok (.iadd, 1) := by decide +kernel
theorem dX12_takesSet_28 : decode cX12_takesSet 28 = .ok (.iaload, 1) := by decide +kernel
theorem dX12_takesSet_29 : decode cX12_takesSet 29 = .ok (.istore_n 2, 1) := by decide +kernel
theorem dX12_takesSet_30 : decode cX12_takesSet 30 = .ok (.aload_n 0, 1) := by decide +kernel
theorem dX12_takesSet_31 : decode cX12_takesSet 31 = .ok (.iload_n 2, 1) := by decide +kernel
theorem dX12_takesSet_32 : decode cX12_takesSet 32 = .ok (.invokevirtual 355, 3) := by decide +kernel
theorem dX12_takesSet_35 : decode cX12_takesSet 35 = .ok (.ifCond .ne 5, 3) := by decide +kernel
theorem dX12_takesSet_38 : decode cX12_takesSet 38 = .ok (.iconst 0, 1) := by decide +kernel
theorem dX12_takesSet_39 : decode cX12_takesSet 39 = .ok (.ireturn, 1) := by decide +kernel
theorem dX12_takesSet_40 : decode cX12_takesSet 40 = .ok (.aload_n 0, 1) := by decide +kernel
theorem dX12_takesSet_41 : decode cX12_takesSet 41 = .ok (.getfield 43, 3) := by decide +kernel
theorem dX12_takesSet_44 : decode cX12_takesSet 44 = .ok (.iload_n 1, 1) := by decide +kernel
theorem dX12_takesSet_45 : decode cX12_takesSet 45 = .ok (.iconst 3, 1) := by decide +kernel
theorem dX12_takesSet_46 : decode cX12_takesSet 46 = .ok (.iadd, 1) := by decide +kernel
theorem dX12_takesSet_47 : decode cX12_takesSet 47 = .ok (.aload_n 0, 1) := by decide +kernel
theorem dX12_takesSet_48 : decode cX12_takesSet 48 = .ok (.getfield 233, 3) := by decide +kernel
theorem dX12_takesSet_51 : decode cX12_takesSet 51 = .ok (.iastore, 1) := by decide +kernel
theorem dX12_takesSet_52 : decode cX12_takesSet 52 = .ok (.aload_n 0, 1) := by decide +kernel
theorem dX12_takesSet_53 : decode cX12_takesSet 53 = .ok (.invokevirtual 226, 3) := by decide +kernel
theorem dX12_takesSet_56 : decode cX12_takesSet 56 = .ok (.aload_n 0, 1) := by decide +kernel
theorem dX12_takesSet_57 : decode cX12_takesSet 57 = .ok (.iload_n 1, 1) := by decide +kernel
theorem dX12_takesSet_58 : decode cX12_takesSet 58 = .ok (.iconst 4, 1) := by decide +kernel
theorem dX12_takesSet_59 : decode cX12_takesSet 59 = .ok (.iadd, 1) := by decide +kernel
theorem dX12_takesSet_60 : decode cX12_takesSet 60 = .ok (.invokevirtual 358, 3) := by decide +kernel
theorem dX12_takesSet_63 : decode cX12_takesSet 63 = .ok (.ifCond .ne 5, 3) := by decide +kernel
theorem dX12_takesSet_66 : decode cX12_takesSet 66 = .ok (.iconst 0, 1) := by decide +kernel
theorem dX12_takesSet_67 : decode cX12_takesSet 67 = .ok (.ireturn, 1) := by decide +kernel
theorem dX12_takesSet_68 : decode cX12_takesSet 68 = .ok (.aload_n 0, 1) := by decide +kernel
theorem dX12_takesSet_69 : decode cX12_takesSet 69 = .ok (.getfield 43, 3) := by decide +kernel
theorem dX12_takesSet_72 : decode cX12_takesSet 72 = .ok (.iload_n 1, 1) := by decide +kernel
theorem dX12_takesSet_73 : decode cX12_takesSet 73 = .ok (.iconst 2, 1) := by decide +kernel
theorem dX12_takesSet_74 : decode cX12_takesSet 74 = .ok (.iadd, 1) := by decide +kernel
theorem dX12_takesSet_75 : decode cX12_takesSet 75 = .ok (.iconst 1, 1) := by decide +kernel
theorem dX12_takesSet_76 : decode cX12_takesSet 76 = .ok (.iastore, 1) := by decide +kernel
theorem dX12_takesSet_77 : decode cX12_takesSet 77 = .ok (.aload_n 0, 1) := by decide +kernel
theorem dX12_takesSet_78 : decode cX12_takesSet 78 = .ok (.getfield 197, 3) := by decide +kernel
theorem dX12_takesSet_81 : decode cX12_takesSet 81 = .ok (.iconst 1, 1) := by decide +kernel
theorem dX12_takesSet_82 : decode cX12_takesSet 82 = .ok (.if_icmp .ne 82, 3) := by decide +kernel
theorem dX12_takesSet_85 : decode cX12_takesSet 85 = .ok (.aload_n 0, 1) := by decide +kernel
theorem dX12_takesSet_86 : decode cX12_takesSet 86 = .ok (.ldc2_w 159, 3) := by decide +kernel
theorem dX12_takesSet_89 : decode cX12_takesSet 89 = .ok (.invokevirtual 248, 3) := by decide +kernel
theorem dX12_takesSet_92 : decode cX12_takesSet 92 = .ok (.ifCond .ne 72, 3) := by decide +kernel
theorem dX12_takesSet_95 : decode cX12_takesSet 95 = .ok (.aload_n 0, 1) := by decide +kernel
theorem dX12_takesSet_96 : decode cX12_takesSet 96 = .ok (.iload_n 2, 1) := by decide +kernel
theorem dX12_takesSet_97 : decode cX12_takesSet 97 = .ok (.invokevirtual 355, 3) := by decide +kernel
theorem dX12_takesSet_100 : decode cX12_takesSet 100 = .ok (.ifCond .ne 5, 3) := by decide +kernel
theorem dX12_takesSet_103 : decode cX12_takesSet 103 = .ok (.iconst 0, 1) := by decide +kernel
theorem dX12_takesSet_104 : decode cX12_takesSet 104 = .ok (.ireturn, 1) := by decide +kernel
theorem dX12_takesSet_105 : decode cX12_takesSet 105 = .ok (.aload_n 0, 1) := by decide +kernel
theorem dX12_takesSet_106 : decode cX12_takesSet 106 = .ok (.getfield 233, 3) := by decide +kernel
theorem dX12_takesSet_109 : decode cX12_takesSet 109 = .ok (.aload_n 0, 1) := by decide +kernel
theorem dX12_takesSet_110 : decode cX12_takesSet 110 = .ok (.getfield 43, 3) := by decide +kernel
theorem dX12_takesSet_113 : decode cX12_takesSet 113 = .ok (.iload_n 1, 1) := by decide +kernel
theorem dX12_takesSet_114 : decode cX12_takesSet 114 = .ok (.iconst 3, 1) := by decide +kernel
theorem dX12_takesSet_115 : decode cX12_takesSet 115 = .ok (.iadd, 1) := by decide +kernel
theorem dX12_takesSet_116 : decode cX12_takesSet 116 = .ok (.iaload, 1) := by decide +kernel
theorem dX12_takesSet_117 : decode cX12_takesSet 117 = .ok (.if_icmp .ne 9, 3) := by decide +kernel
theorem dX12_takesSet_120 : decode cX12_takesSet 120 = .ok (.aload_n 0, 1) := by decide +kernel
theorem dX12_takesSet_121 : decode cX12_takesSet 121 = .ok (.iconst 3, 1) := by decide +kernel
theorem dX12_takesSet_122 : decode cX12_takesSet 122 = .ok (.invokevirtual 223, 3) := by decide +kernel
theorem dX12_takesSet_125 : decode cX12_takesSet 125 = .ok (.ireturn, 1) := by decide +kernel
theorem dX12_takesSet_126 : decode cX12_takesSet 126 = .ok (.aload_n 0, 1) := by decide +kernel
theorem dX12_takesSet_127 : decode cX12_takesSet 127 = .ok (.getfield 43, 3) := by decide +kernel
theorem dX12_takesSet_130 : decode cX12_takesSet 130 = .ok (.iload_n 1, 1) := by decide +kernel
theorem dX12_takesSet_131 : decode cX12_takesSet 131 = .ok (.iconst 5, 1) := by decide +kernel
theorem dX12_takesSet_132 : decode cX12_takesSet 132 = .ok (.iadd, 1) := by decide +kernel
theorem dX12_takesSet_133 : decode cX12_takesSet 133 = .ok (.aload_n 0, 1) := by decide +kernel
theorem dX12_takesSet_134 : decode cX12_takesSet 134 = .ok (.getfield 233, 3) := by decide +kernel
theorem dX12_takesSet_137 : decode cX12_takesSet 137 = .ok (.iastore, 1) := by decide +kernel
theorem dX12_takesSet_138 : decode cX12_takesSet 138 = .ok (.aload_n 0, 1) := by decide +kernel
theorem dX12_takesSet_139 : decode cX12_takesSet 139 = .ok (.invokevirtual 226, 3) := by decide +kernel
theorem dX12_takesSet_142 : decode cX12_takesSet 142 = .ok (.aload_n 0, 1) := by decide +kernel
theorem dX12_takesSet_143 : decode cX12_takesSet 143 = .ok (.iload_n 1, 1) := by decide +kernel
theorem dX12_takesSet_144 : decode cX12_takesSet 144 = .ok (.bipush 6, 2) := by decide +kernel
theorem dX12_takesSet_146 : decode cX12_takesSet 146 = .ok (.iadd, 1) := by decide +kernel
theorem dX12_takesSet_147 : decode cX12_takesSet 147 = .ok (.invokevirtual 358, 3) := by decide +kernel
theorem dX12_takesSet_150 : decode cX12_takesSet 150 = .ok (.ifCond .ne 5, 3) := by decide +kernel
theorem dX12_takesSet_153 : decode cX12_takesSet 153 = .ok (.iconst 0, 1) := by decide +kernel
theorem dX12_takesSet_154 : decode cX12_takesSet 154 = .ok (.ireturn, 1) := by decide +kernel
theorem dX12_takesSet_155 : decode cX12_takesSet 155 = .ok (.aload_n 0, 1) := by decide +kernel
theorem dX12_takesSet_156 : decode cX12_takesSet 156 = .ok (.getfield 43, 3) := by decide +kernel
theorem dX12_takesSet_159 : decode cX12_takesSet 159 = .ok (.iload_n 1, 1) := by decide +kernel
theorem dX12_takesSet_160 : decode cX12_takesSet 160 = .ok (.iconst 2, 1) := by decide +kernel
theorem dX12_takesSet_161 : decode cX12_takesSet 161 = .ok (.iadd, 1) := by decide +kernel
theorem dX12_takesSet_162 : decode cX12_takesSet 162 = .ok (.iconst 2, 1) := by decide +kernel
theorem dX12_takesSet_163 : decode cX12_takesSet 163 = .ok (.iastore, 1) := by decide +kernel
theorem dX12_takesSet_164 : decode cX12_takesSet 164 = .ok (.aload_n 0, 1) := by decide +kernel
theorem dX12_takesSet_165 : decode cX12_takesSet 165 = .ok (.iload_n 1, 1) := by decide +kernel
theorem dX12_takesSet_166 : decode cX12_takesSet 166 = .ok (.invokevirtual 364, 3) := by decide +kernel
theorem dX12_takesSet_169 : decode cX12_takesSet 169 = .ok (.ireturn, 1) := by decide +kernel
abbrev M_X12_takesSet : mM := (cX12_takesSet, 3, RX12, some .boolean, false, 5, 110, 0, 0)
theorem gX12_takesSet : cI yX12_takesSet M_X12_takesSet 1 := ⟨(wsl_41 _ (List.mem_of_getElem? (i := 20) rfl)), (wsl_41 _ (List.mem_of_getElem? (i := 21) rfl)), (wsl_1 _ (List.mem_of_getElem? (i := 5) rfl)), (wsl_41 _ (List.mem_of_getElem? (i := 22) rfl)), by decide +kernel⟩
noncomputable def fX12_takesSet_b164 (h : hH) (a0 a1 : Int) : Option (Int × hH) :=
  (fX12_takesConds h a0 a1).bind fun q166 =>
  some (q166.1, q166.2)
noncomputable def fX12_takesSet (h : hH) (a0 a1 : Int) : Option (Int × hH) :=
  (fX12_next h a0).bind fun h1 =>
  (aput h1 (h1 a0 9) a1 2).bind fun h10 =>
  (fX12_takesOwnTable h10 a0 a1).bind fun q13 =>
  if q13.1 = 0 then
    some (0, q13.2)
  else
    (aget q13.2 (q13.2 a0 9) (w32 (a1 + 1))).bind fun v28 =>
    (fX12_looksAtCol q13.2 a0 v28).bind fun q32 =>
    if q32.1 = 0 then
      some (0, q32.2)
    else
      (aput q32.2 (q32.2 a0 9) (w32 (a1 + 3)) (q32.2 a0 19)).bind fun h51 =>
      (fX12_next h51 a0).bind fun h53 =>
      (fX12_takesValue h53 a0 (w32 (a1 + 4))).bind fun q60 =>
      if q60.1 = 0 then
        some (0, q60.2)
      else
        (aput q60.2 (q60.2 a0 9) (w32 (a1 + 2)) 1).bind fun h76 =>
        if h76 a0 12 = 1 then
          (fX12_isWord h76 a0 26982).bind fun r89 =>
          if r89 = 0 then
            (fX12_looksAtCol h76 a0 v28).bind fun q97 =>
            if q97.1 = 0 then
              some (0, q97.2)
            else
              (aget q97.2 (q97.2 a0 9) (w32 (a1 + 3))).bind fun v116 =>
              if q97.2 a0 19 = v116 then
                (fX12_bad q97.2 a0 3).bind fun q122 =>
                some (q122.1, q122.2)
              else
                (aput q97.2 (q97.2 a0 9) (w32 (a1 + 5)) (q97.2 a0 19)).bind fun h137 =>
                (fX12_next h137 a0).bind fun h139 =>
                (fX12_takesValue h139 a0 (w32 (a1 + 6))).bind fun q147 =>
                if q147.1 = 0 then
                  some (0, q147.2)
                else
                  (aput q147.2 (q147.2 a0 9) (w32 (a1 + 2)) 2).bind fun h163 =>
                  fX12_takesSet_b164 h163 a0 a1
          else
            fX12_takesSet_b164 h76 a0 a1
        else
          fX12_takesSet_b164 h76 a0 a1
section M_X12_takesSet
variable {p : Program} {l : Launch} {e : Env} {R : Room} {s : State} {m : MethodId} {args : Array Value} {below : List Frame} {meth : Method} {c : Code} {D : va_G} {G : gG} {A : Nat → Prop} {H0 : Heap} {n0 : Int} {x : Option vV × hH} {h : hH}
set_option maxRecDepth 100000 in
set_option maxHeartbeats 4000000 in
theorem oX12_takesSet_b164 {a0 a1 : Int} {K : Int × hH → Prop} (k0 : ∀ r, K (r) → x = (some (2, r.1), r.2)) {r : Int × hH} (hr : fX12_takesSet_b164 h a0 a1 = some r) (hk : K r) : Wq p l e R s m args below meth c D G A H0 true n0 M_X12_takesSet x 0 0 164 [(0, (22, a0)), (1, (0, a1))] [] h := by
  unfold fX12_takesSet_b164 at hr
  refine r_aload_n dX12_takesSet_164 rfl 0 rfl (nl rfl) ?_
  refine r_iload_n dX12_takesSet_165 rfl 1 rfl (Or.inl rfl) ?_
  obtain ⟨q166, hg166, hr⟩ := bnd hr
  refine k_V (ci := 12) (o := a0) (T := TX12) (as := [(0, a1)]) (rest := []) (X := (some (2, q166.1), q166.2)) (oX12_takesConds hg166) gX12_takesConds rfl (by decide) rfl (wsl_41 _ (List.mem_of_getElem? (i := 11) rfl)) rfl dX12_takesSet_166 rfl ?_
  obtain rfl := Option.some.inj hr
  exact r_ret dX12_takesSet_169 rfl (Or.inr ⟨rfl, rfl⟩) (k0 _ hk) ⟨rfl, rfl⟩
set_option maxRecDepth 100000 in
set_option maxHeartbeats 4000000 in
theorem oX12_takesSet_b0 {a0 a1 : Int} {K : Int × hH → Prop} (k0 : ∀ r, K (r) → x = (some (2, r.1), r.2)) {r : Int × hH} (hr : fX12_takesSet h a0 a1 = some r) (hk : K r) : Wq p l e R s m args below meth c D G A H0 true n0 M_X12_takesSet x 0 0 0 [(0, (22, a0)), (1, (0, a1))] [] h := by
  unfold fX12_takesSet at hr
  refine r_aload_n dX12_takesSet_0 rfl 0 rfl (nl rfl) ?_
  obtain ⟨h1, hg1, hr⟩ := bnd hr
  refine k_V (ci := 12) (o := a0) (T := TX12) (as := []) (rest := []) (X := (none, h1)) (oX12_next hg1) gX12_next rfl (by decide) rfl (wsl_24 _ (List.mem_of_getElem? (i := 0) rfl)) rfl dX12_takesSet_1 rfl ?_
  refine r_aload_n dX12_takesSet_4 rfl 0 rfl (nl rfl) ?_
  refine r_get 12 9 (o := a0) (w := (50, h1 a0 9)) (T := TX12) (ref := "FollowingRefsModel") rfl (by decide) rfl (by decide) inlX12 (wsl_7 _ (List.mem_of_getElem? (i := 11) rfl)) rfl dX12_takesSet_5 rfl ?_
  refine r_iload_n dX12_takesSet_8 rfl 1 rfl (Or.inl rfl) ?_
  refine r_iconst dX12_takesSet_9 (by decide) ?_
  obtain ⟨h10, hg10, hr⟩ := bnd hr
  refine r_iast dX12_takesSet_10 hg10 ?_
  refine r_aload_n dX12_takesSet_11 rfl 0 rfl (nl rfl) ?_
  refine r_iload_n dX12_takesSet_12 rfl 1 rfl (Or.inl rfl) ?_
  obtain ⟨q13, hg13, hr⟩ := bnd hr
  refine k_V (ci := 12) (o := a0) (T := TX12) (as := [(0, a1)]) (rest := []) (X := (some (2, q13.1), q13.2)) (oX12_takesOwnTable hg13) gX12_takesOwnTable rfl (by decide) rfl (wsl_40 _ (List.mem_of_getElem? (i := 23) rfl)) rfl dX12_takesSet_13 rfl ?_
  refine r_scast 0 (v := (2, q13.1)) (w := (0, q13.1)) rfl zc hTz (st' := [(0, q13.1)]) rfl ?_
  refine r_if_ne dX12_takesSet_16 (tgt := 21) (by decide) (fun hc => ?_) (fun hc => ?_)
  · have hr := ifn hr hc
    refine r_aload_n dX12_takesSet_21 rfl 0 rfl (nl rfl) ?_
    refine r_get 12 9 (o := a0) (w := (50, q13.2 a0 9)) (T := TX12) (ref := "FollowingRefsModel") rfl (by decide) rfl (by decide) inlX12 (wsl_7 _ (List.mem_of_getElem? (i := 11) rfl)) rfl dX12_takesSet_22 rfl ?_
    refine r_iload_n dX12_takesSet_25 rfl 1 rfl (Or.inl rfl) ?_
    refine r_iconst dX12_takesSet_26 (by decide) ?_
    refine r_iadd dX12_takesSet_27 ?_
    obtain ⟨v28, hg28, hr⟩ := bnd hr
    refine r_iald dX12_takesSet_28 hg28 ?_
    refine r_istore_n dX12_takesSet_29 rfl (Or.inl rfl) (by decide) (lv' := [(2, (0, v28)), (0, (22, a0)), (1, (0, a1))]) rfl ?_
    refine r_aload_n dX12_takesSet_30 rfl 1 rfl (nl rfl) ?_
    refine r_iload_n dX12_takesSet_31 rfl 0 rfl (Or.inl rfl) ?_
    obtain ⟨q32, hg32, hr⟩ := bnd hr
    refine k_V (ci := 12) (o := a0) (T := TX12) (as := [(0, v28)]) (rest := []) (X := (some (2, q32.1), q32.2)) (oX12_looksAtCol hg32) gX12_looksAtCol rfl (by decide) rfl (wsl_41 _ (List.mem_of_getElem? (i := 15) rfl)) rfl dX12_takesSet_32 rfl ?_
    refine r_scast 0 (v := (2, q32.1)) (w := (0, q32.1)) rfl zc hTz (st' := [(0, q32.1)]) rfl ?_
    refine r_if_ne dX12_takesSet_35 (tgt := 40) (by decide) (fun hc => ?_) (fun hc => ?_)
    · have hr := ifn hr hc
      refine r_aload_n dX12_takesSet_40 rfl 1 rfl (nl rfl) ?_
      refine r_get 12 9 (o := a0) (w := (50, q32.2 a0 9)) (T := TX12) (ref := "FollowingRefsModel") rfl (by decide) rfl (by decide) inlX12 (wsl_7 _ (List.mem_of_getElem? (i := 11) rfl)) rfl dX12_takesSet_41 rfl ?_
      refine r_iload_n dX12_takesSet_44 rfl 2 rfl (Or.inl rfl) ?_
      refine r_iconst dX12_takesSet_45 (by decide) ?_
      refine r_iadd dX12_takesSet_46 ?_
      refine r_aload_n dX12_takesSet_47 rfl 1 rfl (nl rfl) ?_
      refine r_get 12 19 (o := a0) (w := (0, q32.2 a0 19)) (T := TX12) (ref := "FollowingRefsModel") rfl (by decide) rfl (by decide) inlX12 (wsl_26 _ (List.mem_of_getElem? (i := 2) rfl)) rfl dX12_takesSet_48 rfl ?_
      obtain ⟨h51, hg51, hr⟩ := bnd hr
      refine r_iast dX12_takesSet_51 hg51 ?_
      refine r_aload_n dX12_takesSet_52 rfl 1 rfl (nl rfl) ?_
      obtain ⟨h53, hg53, hr⟩ := bnd hr
      refine k_V (ci := 12) (o := a0) (T := TX12) (as := []) (rest := []) (X := (none, h53)) (oX12_next hg53) gX12_next rfl (by decide) rfl (wsl_24 _ (List.mem_of_getElem? (i := 0) rfl)) rfl dX12_takesSet_53 rfl ?_
      refine r_aload_n dX12_takesSet_56 rfl 1 rfl (nl rfl) ?_
      refine r_iload_n dX12_takesSet_57 rfl 2 rfl (Or.inl rfl) ?_
      refine r_iconst dX12_takesSet_58 (by decide) ?_
      refine r_iadd dX12_takesSet_59 ?_
      obtain ⟨q60, hg60, hr⟩ := bnd hr
      refine k_V (ci := 12) (o := a0) (T := TX12) (as := [(0, w32 (a1 + 4))]) (rest := []) (X := (some (2, q60.1), q60.2)) (oX12_takesValue hg60) gX12_takesValue rfl (by decide) rfl (wsl_41 _ (List.mem_of_getElem? (i := 3) rfl)) rfl dX12_takesSet_60 rfl ?_
      refine r_scast 0 (v := (2, q60.1)) (w := (0, q60.1)) rfl zc hTz (st' := [(0, q60.1)]) rfl ?_
      refine r_if_ne dX12_takesSet_63 (tgt := 68) (by decide) (fun hc => ?_) (fun hc => ?_)
      · have hr := ifn hr hc
        refine r_aload_n dX12_takesSet_68 rfl 1 rfl (nl rfl) ?_
        refine r_get 12 9 (o := a0) (w := (50, q60.2 a0 9)) (T := TX12) (ref := "FollowingRefsModel") rfl (by decide) rfl (by decide) inlX12 (wsl_7 _ (List.mem_of_getElem? (i := 11) rfl)) rfl dX12_takesSet_69 rfl ?_
        refine r_iload_n dX12_takesSet_72 rfl 2 rfl (Or.inl rfl) ?_
        refine r_iconst dX12_takesSet_73 (by decide) ?_
        refine r_iadd dX12_takesSet_74 ?_
        refine r_iconst dX12_takesSet_75 (by decide) ?_
        obtain ⟨h76, hg76, hr⟩ := bnd hr
        refine r_iast dX12_takesSet_76 hg76 ?_
        refine r_aload_n dX12_takesSet_77 rfl 1 rfl (nl rfl) ?_
        refine r_get 12 12 (o := a0) (w := (0, h76 a0 12)) (T := TX12) (ref := "FollowingRefsModel") rfl (by decide) rfl (by decide) inlX12 (wsl_23 _ (List.mem_of_getElem? (i := 14) rfl)) rfl dX12_takesSet_78 rfl ?_
        refine r_iconst dX12_takesSet_81 (by decide) ?_
        refine r_icmp_ne dX12_takesSet_82 (tgt := 164) (by decide) (fun hc => ?_) (fun hc => ?_)
        · have hr := ifn hr hc
          refine r_sub [1, 2] (lv' := [(0, (22, a0)), (1, (0, a1))]) rfl ?_
          exact oX12_takesSet_b164 (K := K) (fun r z => k0 r z) hr hk
        · have hr := ifp hr hc
          refine r_aload_n dX12_takesSet_85 rfl 1 rfl (nl rfl) ?_
          refine r_ldc2' (v := 26982) dX12_takesSet_86 (by decide) (wsl_9 _ (List.mem_of_getElem? (i := 7) rfl)) ?_
          obtain ⟨r89, hg89, hr⟩ := bnd hr
          refine k_V (ci := 12) (o := a0) (T := TX12) (as := [(1, 26982)]) (rest := []) (X := (some (2, r89), h76)) (oX12_isWord hg89) gX12_isWord rfl (by decide) rfl (wsl_24 _ (List.mem_of_getElem? (i := 22) rfl)) rfl dX12_takesSet_89 rfl ?_
          refine r_scast 0 (v := (2, r89)) (w := (0, r89)) rfl zc hTz (st' := [(0, r89)]) rfl ?_
          refine r_if_ne dX12_takesSet_92 (tgt := 164) (by decide) (fun hc => ?_) (fun hc => ?_)
          · have hr := ifn hr hc
            refine r_sub [1, 2] (lv' := [(0, (22, a0)), (1, (0, a1))]) rfl ?_
            exact oX12_takesSet_b164 (K := K) (fun r z => k0 r z) hr hk
          · have hr := ifp hr hc
            refine r_aload_n dX12_takesSet_95 rfl 1 rfl (nl rfl) ?_
            refine r_iload_n dX12_takesSet_96 rfl 0 rfl (Or.inl rfl) ?_
            obtain ⟨q97, hg97, hr⟩ := bnd hr
            refine k_V (ci := 12) (o := a0) (T := TX12) (as := [(0, v28)]) (rest := []) (X := (some (2, q97.1), q97.2)) (oX12_looksAtCol hg97) gX12_looksAtCol rfl (by decide) rfl (wsl_41 _ (List.mem_of_getElem? (i := 15) rfl)) rfl dX12_takesSet_97 rfl ?_
            refine r_scast 0 (v := (2, q97.1)) (w := (0, q97.1)) rfl zc hTz (st' := [(0, q97.1)]) rfl ?_
            refine r_if_ne dX12_takesSet_100 (tgt := 105) (by decide) (fun hc => ?_) (fun hc => ?_)
            · have hr := ifn hr hc
              refine r_aload_n dX12_takesSet_105 rfl 1 rfl (nl rfl) ?_
              refine r_get 12 19 (o := a0) (w := (0, q97.2 a0 19)) (T := TX12) (ref := "FollowingRefsModel") rfl (by decide) rfl (by decide) inlX12 (wsl_26 _ (List.mem_of_getElem? (i := 2) rfl)) rfl dX12_takesSet_106 rfl ?_
              refine r_aload_n dX12_takesSet_109 rfl 1 rfl (nl rfl) ?_
              refine r_get 12 9 (o := a0) (w := (50, q97.2 a0 9)) (T := TX12) (ref := "FollowingRefsModel") rfl (by decide) rfl (by decide) inlX12 (wsl_7 _ (List.mem_of_getElem? (i := 11) rfl)) rfl dX12_takesSet_110 rfl ?_
              refine r_iload_n dX12_takesSet_113 rfl 2 rfl (Or.inl rfl) ?_
              refine r_iconst dX12_takesSet_114 (by decide) ?_
              refine r_iadd dX12_takesSet_115 ?_
              obtain ⟨v116, hg116, hr⟩ := bnd hr
              refine r_iald dX12_takesSet_116 hg116 ?_
              refine r_icmp_ne dX12_takesSet_117 (tgt := 126) (by decide) (fun hc => ?_) (fun hc => ?_)
              · have hr := ifn hr hc
                refine r_aload_n dX12_takesSet_126 rfl 1 rfl (nl rfl) ?_
                refine r_get 12 9 (o := a0) (w := (50, q97.2 a0 9)) (T := TX12) (ref := "FollowingRefsModel") rfl (by decide) rfl (by decide) inlX12 (wsl_7 _ (List.mem_of_getElem? (i := 11) rfl)) rfl dX12_takesSet_127 rfl ?_
                refine r_iload_n dX12_takesSet_130 rfl 2 rfl (Or.inl rfl) ?_
                refine r_iconst dX12_takesSet_131 (by decide) ?_
                refine r_iadd dX12_takesSet_132 ?_
                refine r_aload_n dX12_takesSet_133 rfl 1 rfl (nl rfl) ?_
                refine r_get 12 19 (o := a0) (w := (0, q97.2 a0 19)) (T := TX12) (ref := "FollowingRefsModel") rfl (by decide) rfl (by decide) inlX12 (wsl_26 _ (List.mem_of_getElem? (i := 2) rfl)) rfl dX12_takesSet_134 rfl ?_
                obtain ⟨h137, hg137, hr⟩ := bnd hr
                refine r_iast dX12_takesSet_137 hg137 ?_
                refine r_aload_n dX12_takesSet_138 rfl 1 rfl (nl rfl) ?_
                obtain ⟨h139, hg139, hr⟩ := bnd hr
                refine k_V (ci := 12) (o := a0) (T := TX12) (as := []) (rest := []) (X := (none, h139)) (oX12_next hg139) gX12_next rfl (by decide) rfl (wsl_24 _ (List.mem_of_getElem? (i := 0) rfl)) rfl dX12_takesSet_139 rfl ?_
                refine r_aload_n dX12_takesSet_142 rfl 1 rfl (nl rfl) ?_
                refine r_iload_n dX12_takesSet_143 rfl 2 rfl (Or.inl rfl) ?_
                refine r_bipush dX12_takesSet_144 (by decide) (by decide) ?_
                refine r_iadd dX12_takesSet_146 ?_
                obtain ⟨q147, hg147, hr⟩ := bnd hr
                refine k_V (ci := 12) (o := a0) (T := TX12) (as := [(0, w32 (a1 + 6))]) (rest := []) (X := (some (2, q147.1), q147.2)) (oX12_takesValue hg147) gX12_takesValue rfl (by decide) rfl (wsl_41 _ (List.mem_of_getElem? (i := 3) rfl)) rfl dX12_takesSet_147 rfl ?_
                refine r_scast 0 (v := (2, q147.1)) (w := (0, q147.1)) rfl zc hTz (st' := [(0, q147.1)]) rfl ?_
                refine r_if_ne dX12_takesSet_150 (tgt := 155) (by decide) (fun hc => ?_) (fun hc => ?_)
                · have hr := ifn hr hc
                  refine r_aload_n dX12_takesSet_155 rfl 1 rfl (nl rfl) ?_
                  refine r_get 12 9 (o := a0) (w := (50, q147.2 a0 9)) (T := TX12) (ref := "FollowingRefsModel") rfl (by decide) rfl (by decide) inlX12 (wsl_7 _ (List.mem_of_getElem? (i := 11) rfl)) rfl dX12_takesSet_156 rfl ?_
                  refine r_iload_n dX12_takesSet_159 rfl 2 rfl (Or.inl rfl) ?_
                  refine r_iconst dX12_takesSet_160 (by decide) ?_
                  refine r_iadd dX12_takesSet_161 ?_
                  refine r_iconst dX12_takesSet_162 (by decide) ?_
                  obtain ⟨h163, hg163, hr⟩ := bnd hr
                  refine r_iast dX12_takesSet_163 hg163 ?_
                  refine r_sub [1, 2] (lv' := [(0, (22, a0)), (1, (0, a1))]) rfl ?_
                  exact oX12_takesSet_b164 (K := K) (fun r z => k0 r z) hr hk
                · have hr := ifp hr hc
                  refine r_iconst dX12_takesSet_153 (by decide) ?_
                  refine r_scast 0 (v := (0, 0)) (w := (2, 0)) rfl cz (fun _ => Or.inl rfl) (st' := [(2, 0)]) rfl ?_
                  obtain rfl := Option.some.inj hr
                  exact r_ret dX12_takesSet_154 rfl (Or.inr ⟨rfl, rfl⟩) (k0 _ hk) ⟨rfl, rfl⟩
              · have hr := ifp hr hc
                refine r_aload_n dX12_takesSet_120 rfl 1 rfl (nl rfl) ?_
                refine r_iconst dX12_takesSet_121 (by decide) ?_
                obtain ⟨q122, hg122, hr⟩ := bnd hr
                refine k_V (ci := 12) (o := a0) (T := TX12) (as := [(0, 3)]) (rest := []) (X := (some (2, q122.1), q122.2)) (oX12_bad hg122) gX12_bad rfl (by decide) rfl (wsl_25 _ (List.mem_of_getElem? (i := 6) rfl)) rfl dX12_takesSet_122 rfl ?_
                obtain rfl := Option.some.inj hr
                exact r_ret dX12_takesSet_125 rfl (Or.inr ⟨rfl, rfl⟩) (k0 _ hk) ⟨rfl, rfl⟩
            · have hr := ifp hr hc
              refine r_iconst dX12_takesSet_103 (by decide) ?_
              refine r_scast 0 (v := (0, 0)) (w := (2, 0)) rfl cz (fun _ => Or.inl rfl) (st' := [(2, 0)]) rfl ?_
              obtain rfl := Option.some.inj hr
              exact r_ret dX12_takesSet_104 rfl (Or.inr ⟨rfl, rfl⟩) (k0 _ hk) ⟨rfl, rfl⟩
      · have hr := ifp hr hc
        refine r_iconst dX12_takesSet_66 (by decide) ?_
        refine r_scast 0 (v := (0, 0)) (w := (2, 0)) rfl cz (fun _ => Or.inl rfl) (st' := [(2, 0)]) rfl ?_
        obtain rfl := Option.some.inj hr
        exact r_ret dX12_takesSet_67 rfl (Or.inr ⟨rfl, rfl⟩) (k0 _ hk) ⟨rfl, rfl⟩
    · have hr := ifp hr hc
      refine r_iconst dX12_takesSet_38 (by decide) ?_
      refine r_scast 0 (v := (0, 0)) (w := (2, 0)) rfl cz (fun _ => Or.inl rfl) (st' := [(2, 0)]) rfl ?_
      obtain rfl := Option.some.inj hr
      exact r_ret dX12_takesSet_39 rfl (Or.inr ⟨rfl, rfl⟩) (k0 _ hk) ⟨rfl, rfl⟩
  · have hr := ifp hr hc
    refine r_iconst dX12_takesSet_19 (by decide) ?_
    refine r_scast 0 (v := (0, 0)) (w := (2, 0)) rfl cz (fun _ => Or.inl rfl) (st' := [(2, 0)]) rfl ?_
    obtain rfl := Option.some.inj hr
    exact r_ret dX12_takesSet_20 rfl (Or.inr ⟨rfl, rfl⟩) (k0 _ hk) ⟨rfl, rfl⟩
end M_X12_takesSet
theorem oX12_takesSet {l : Launch} {D : va_G} {G : gG} {h : hH} {a0 a1 : Int} {r : Int × hH} (hr : fX12_takesSet h a0 a1 = some r) : Ctr l D G true yX12_takesSet M_X12_takesSet [(22, a0), (0, a1)] h (some (2, r.1), r.2) :=
  Ctr_of (by decide) rfl (fun z => by cases z) (nl rfl) (fun {p e R s m args below meth c A H0} => by
    exact oX12_takesSet_b0 (K := fun z9 => z9 = r) (fun r9 z => by rw [z]) hr rfl)
/-! X12_takesStatement -/
theorem dX12_takesStatement_0 : decode cX12_takesStatement 0 = .ok (.aload_n 0, 1) := by decide +kernel
theorem dX12_takesStatement_1 : decode cX12_takesStatement 1 = .ok (.ldc2_w 155, 3) := by decide +kernel
theorem dX12_takesStatement_4 : decode cX12_takesStatement 4 = .ok (.invokevirtual 248, 3) := by decide +kernel
theorem dX12_takesStatement_7 : decode cX12_takesStatement 7 = .ok (.ifCond .eq 11, 3) := by decide +kernel
theorem dX12_takesStatement_10 : decode cX12_takesStatement 10 = .ok (.aload_n 0, 1) := by decide +kernel
theorem dX12_takesStatement_11 : decode cX12_takesStatement 11 = .ok (.iload_n 1, 1) := by decide +kernel
theorem dX12_takesStatement_12 : decode cX12_takesStatement 12 = .ok (.invokevirtual 367, 3) := by decide +kernel
theorem dX12_takesStatement_15 : decode cX12_takesStatement 15 = .ok (.goto 44, 3) := by decide +kernel
theorem dX12_takesStatement_18 : decode cX12_takesStatement 18 = .ok (.aload_n 0, 1) := by decide +kernel
theorem dX12_takesStatement_19 : decode cX12_takesStatement 19 = .ok (.ldc2_w 157, 3) := by decide +kernel
theorem dX12_takesStatement_22 : decode cX12_takesStatement 22 = .ok (.invokevirtual 248, 3) := by decide +kernel
theorem dX12_takesStatement_25 : decode cX12_takesStatement 25 = .ok (.ifCond .eq 11, 3) := by decide +kernel
theorem dX12_takesStatement_28 : decode cX12_takesStatement 28 = .ok (.aload_n 0, 1) := by decide +kernel
theorem dX12_takesStatement_29 : decode cX12_takesStatement 29 = .ok (.iload_n 1, 1) := by decide +kernel
theorem dX12_takesStatement_30 : decode cX12_takesStatement 30 = .ok (.invokevirtual 370, 3) := by decide +kernel
theorem dX12_takesStatement_33 : decode cX12_takesStatement 33 = .ok (.goto 26, 3) := by decide +kernel
theorem dX12_takesStatement_36 : decode cX12_takesStatement 36 = .ok (.aload_n 0, 1) := by decide +kernel
theorem dX12_takesStatement_37 : decode cX12_takesStatement 37 = .ok (.ldc2_w 163, 3) := by decide +kernel
theorem dX12_takesStatement_40 : decode cX12_takesStatement 40 = .ok (.invokevirtual 248, 3) := by decide +kernel
theorem dX12_takesStatement_43 : decode cX12_takesStatement 43 = .ok (.ifCond .eq 11, 3) := by decide +kernel
theorem dX12_takesStatement_46 : decode cX12_takesStatement 46 = .ok (.aload_n 0, 1) := by decide +kernel
theorem dX12_takesStatement_47 : decode cX12_takesStatement 47 = .ok (.iload_n 1, 1) := by decide +kernel
theorem dX12_takesStatement_48 : decode cX12_takesStatement 48 = .ok (.invokevirtual 373, 3) := by decide +kernel
theorem dX12_takesStatement_51 : decode cX12_takesStatement 51 = .ok (.goto 8, 3) := by decide +kernel
theorem dX12_takesStatement_54 : decode cX12_takesStatement 54 = .ok (.aload_n 0, 1) := by decide +kernel
theorem dX12_takesStatement_55 : decode cX12_takesStatement 55 = .ok (.iconst 1, 1) := by decide +kernel
theorem dX12_takesStatement_56 : decode cX12_takesStatement 56 = .ok (.invokevirtual 223, 3) := by decide +kernel
theorem dX12_takesStatement_59 : decode cX12_takesStatement 59 = .ok (.ireturn, 1) := by decide +kernel
abbrev M_X12_takesStatement : mM := (cX12_takesStatement, 2, RX12, some .boolean, false, 6, 132, 0, 0)
theorem gX12_takesStatement : cI yX12_takesStatement M_X12_takesStatement 1 := ⟨(wsl_40 _ (List.mem_of_getElem? (i := 16) rfl)), (wsl_40 _ (List.mem_of_getElem? (i := 17) rfl)), (wsl_1 _ (List.mem_of_getElem? (i := 5) rfl)), (wsl_40 _ (List.mem_of_getElem? (i := 18) rfl)), by decide +kernel⟩
noncomputable def fX12_takesStatement (h : hH) (a0 a1 : Int) : Option (Int × hH) :=
  (fX12_isWord h a0 115923103347316).bind fun r4 =>
  if r4 = 0 then
    (fX12_isWord h a0 110386773062757).bind fun r22 =>
    if r22 = 0 then
      (fX12_isWord h a0 7562612).bind fun r40 =>
      if r40 = 0 then
        (fX12_bad h a0 1).bind fun q56 =>
        some (q56.1, q56.2)
      else
        (fX12_takesSet h a0 a1).bind fun q48 =>
        some (q48.1, q48.2)
    else
      (fX12_takesDelete h a0 a1).bind fun q30 =>
      some (q30.1, q30.2)
  else
    (fX12_takesInsert h a0 a1).bind fun q12 =>
    some (q12.1, q12.2)
section M_X12_takesStatement
variable {p : Program} {l : Launch} {e : Env} {R : Room} {s : State} {m : MethodId} {args : Array Value} {below : List Frame} {meth : Method} {c : Code} {D : va_G} {G : gG} {A : Nat → Prop} {H0 : Heap} {n0 : Int} {x : Option vV × hH} {h : hH}
set_option maxRecDepth 100000 in
set_option maxHeartbeats 4000000 in
theorem oX12_takesStatement_b0 {a0 a1 : Int} {K : Int × hH → Prop} (k0 : ∀ r, K (r) → x = (some (2, r.1), r.2)) {r : Int × hH} (hr : fX12_takesStatement h a0 a1 = some r) (hk : K r) : Wq p l e R s m args below meth c D G A H0 true n0 M_X12_takesStatement x 0 0 0 [(0, (22, a0)), (1, (0, a1))] [] h := by
  unfold fX12_takesStatement at hr
  refine r_aload_n dX12_takesStatement_0 rfl 0 rfl (nl rfl) ?_
  refine r_ldc2' (v := 115923103347316) dX12_takesStatement_1 (by decide) (wsl_9 _ (List.mem_of_getElem? (i := 5) rfl)) ?_
  obtain ⟨r4, hg4, hr⟩ := bnd hr
  refine k_V (ci := 12) (o := a0) (T := TX12) (as := [(1, 115923103347316)]) (rest := []) (X := (some (2, r4), h)) (oX12_isWord hg4) gX12_isWord rfl (by decide) rfl (wsl_24 _ (List.mem_of_getElem? (i := 22) rfl)) rfl dX12_takesStatement_4 rfl ?_
  refine r_scast 0 (v := (2, r4)) (w := (0, r4)) rfl zc hTz (st' := [(0, r4)]) rfl ?_
  refine r_if_eq dX12_takesStatement_7 (tgt := 18) (by decide) (fun hc => ?_) (fun hc => ?_)
  · have hr := ifp hr hc
    refine r_aload_n dX12_takesStatement_18 rfl 0 rfl (nl rfl) ?_
    refine r_ldc2' (v := 110386773062757) dX12_takesStatement_19 (by decide) (wsl_9 _ (List.mem_of_getElem? (i := 6) rfl)) ?_
    obtain ⟨r22, hg22, hr⟩ := bnd hr
    refine k_V (ci := 12) (o := a0) (T := TX12) (as := [(1, 110386773062757)]) (rest := []) (X := (some (2, r22), h)) (oX12_isWord hg22) gX12_isWord rfl (by decide) rfl (wsl_24 _ (List.mem_of_getElem? (i := 22) rfl)) rfl dX12_takesStatement_22 rfl ?_
    refine r_scast 0 (v := (2, r22)) (w := (0, r22)) rfl zc hTz (st' := [(0, r22)]) rfl ?_
    refine r_if_eq dX12_takesStatement_25 (tgt := 36) (by decide) (fun hc => ?_) (fun hc => ?_)
    · have hr := ifp hr hc
      refine r_aload_n dX12_takesStatement_36 rfl 0 rfl (nl rfl) ?_
      refine r_ldc2' (v := 7562612) dX12_takesStatement_37 (by decide) (wsl_9 _ (List.mem_of_getElem? (i := 9) rfl)) ?_
      obtain ⟨r40, hg40, hr⟩ := bnd hr
      refine k_V (ci := 12) (o := a0) (T := TX12) (as := [(1, 7562612)]) (rest := []) (X := (some (2, r40), h)) (oX12_isWord hg40) gX12_isWord rfl (by decide) rfl (wsl_24 _ (List.mem_of_getElem? (i := 22) rfl)) rfl dX12_takesStatement_40 rfl ?_
      refine r_scast 0 (v := (2, r40)) (w := (0, r40)) rfl zc hTz (st' := [(0, r40)]) rfl ?_
      refine r_if_eq dX12_takesStatement_43 (tgt := 54) (by decide) (fun hc => ?_) (fun hc => ?_)
      · have hr := ifp hr hc
        refine r_aload_n dX12_takesStatement_54 rfl 0 rfl (nl rfl) ?_
        refine r_iconst dX12_takesStatement_55 (by decide) ?_
        obtain ⟨q56, hg56, hr⟩ := bnd hr
        refine k_V (ci := 12) (o := a0) (T := TX12) (as := [(0, 1)]) (rest := []) (X := (some (2, q56.1), q56.2)) (oX12_bad hg56) gX12_bad rfl (by decide) rfl (wsl_25 _ (List.mem_of_getElem? (i := 6) rfl)) rfl dX12_takesStatement_56 rfl ?_
        obtain rfl := Option.some.inj hr
        exact r_ret dX12_takesStatement_59 rfl (Or.inr ⟨rfl, rfl⟩) (k0 _ hk) ⟨rfl, rfl⟩
      · have hr := ifn hr hc
        refine r_aload_n dX12_takesStatement_46 rfl 0 rfl (nl rfl) ?_
        refine r_iload_n dX12_takesStatement_47 rfl 1 rfl (Or.inl rfl) ?_
        obtain ⟨q48, hg48, hr⟩ := bnd hr
        refine k_V (ci := 12) (o := a0) (T := TX12) (as := [(0, a1)]) (rest := []) (X := (some (2, q48.1), q48.2)) (oX12_takesSet hg48) gX12_takesSet rfl (by decide) rfl (wsl_41 _ (List.mem_of_getElem? (i := 19) rfl)) rfl dX12_takesStatement_48 rfl ?_
        refine r_goto dX12_takesStatement_51 (tgt := 59) (by decide) ?_
        obtain rfl := Option.some.inj hr
        exact r_ret dX12_takesStatement_59 rfl (Or.inr ⟨rfl, rfl⟩) (k0 _ hk) ⟨rfl, rfl⟩
    · have hr := ifn hr hc
      refine r_aload_n dX12_takesStatement_28 rfl 0 rfl (nl rfl) ?_
      refine r_iload_n dX12_takesStatement_29 rfl 1 rfl (Or.inl rfl) ?_
      obtain ⟨q30, hg30, hr⟩ := bnd hr
      refine k_V (ci := 12) (o := a0) (T := TX12) (as := [(0, a1)]) (rest := []) (X := (some (2, q30.1), q30.2)) (oX12_takesDelete hg30) gX12_takesDelete rfl (by decide) rfl (wsl_41 _ (List.mem_of_getElem? (i := 7) rfl)) rfl dX12_takesStatement_30 rfl ?_
      refine r_goto dX12_takesStatement_33 (tgt := 59) (by decide) ?_
      obtain rfl := Option.some.inj hr
      exact r_ret dX12_takesStatement_59 rfl (Or.inr ⟨rfl, rfl⟩) (k0 _ hk) ⟨rfl, rfl⟩
  · have hr := ifn hr hc
    refine r_aload_n dX12_takesStatement_10 rfl 0 rfl (nl rfl) ?_
    refine r_iload_n dX12_takesStatement_11 rfl 1 rfl (Or.inl rfl) ?_
    obtain ⟨q12, hg12, hr⟩ := bnd hr
    refine k_V (ci := 12) (o := a0) (T := TX12) (as := [(0, a1)]) (rest := []) (X := (some (2, q12.1), q12.2)) (oX12_takesInsert hg12) gX12_takesInsert rfl (by decide) rfl (wsl_40 _ (List.mem_of_getElem? (i := 19) rfl)) rfl dX12_takesStatement_12 rfl ?_
    refine r_goto dX12_takesStatement_15 (tgt := 59) (by decide) ?_
    obtain rfl := Option.some.inj hr
    exact r_ret dX12_takesStatement_59 rfl (Or.inr ⟨rfl, rfl⟩) (k0 _ hk) ⟨rfl, rfl⟩
end M_X12_takesStatement
theorem oX12_takesStatement {l : Launch} {D : va_G} {G : gG} {h : hH} {a0 a1 : Int} {r : Int × hH} (hr : fX12_takesStatement h a0 a1 = some r) : Ctr l D G true yX12_takesStatement M_X12_takesStatement [(22, a0), (0, a1)] h (some (2, r.1), r.2) :=
  Ctr_of (by decide) rfl (fun z => by cases z) (nl rfl) (fun {p e R s m args below meth c A H0} => by
    exact oX12_takesStatement_b0 (K := fun z9 => z9 = r) (fun r9 z => by rw [z]) hr rfl)
/-! X12_isFound -/
theorem dX12_isFound_0 : decode cX12_isFound 0 = .ok (.aload_n 0, 1) := by decide +kernel
theorem dX12_isFound_1 : decode cX12_isFound 1 = .ok (.iload_n 1, 1) := by decide +kernel
theorem dX12_isFound_2 : decode cX12_isFound 2 = .ok (.aload_n 0, 1) := by decide +kernel
theorem dX12_isFound_3 : decode cX12_isFound 3 = .ok (.getfield 43, 3) := by decide +kernel
theorem dX12_isFound_6 : decode cX12_isFound 6 = .ok (.iload_n 2, 1) := by decide +kernel
theorem dX12_isFound_7 : decode cX12_isFound 7 = .ok (.iconst 1, 1) := by decide +kernel
theorem dX12_isFound_8 : decode cX12_isFound 8 = .ok (.iadd, 1) := by decide +kernel
theorem dX12_isFound_9 : decode cX12_isFound 9 = .ok (.iaload, 1) := by decide +kernel
theorem dX12_isFound_10 : decode cX12_isFound 10 = .ok (.invokevirtual 330, 3) := by decide +kernel
theorem dX12_isFound_13 : decode cX12_isFound 13 = .ok (.istore_n 3, 1) := by decide +kernel
theorem dX12_isFound_14 : decode cX12_isFound 14 = .ok (.iconst 0, 1) := by decide +kernel
theorem dX12_isFound_15 : decode cX12_isFound 15 = .ok (.istore 4, 2) := by decide +kernel
theorem dX12_isFound_17 : decode cX12_isFound 17 = .ok (.iload 4, 2) := by decide +kernel
theorem dX12_isFound_19 : decode cX12_isFound 19 = .ok (.aload_n 0, 1) := by decide +kernel
theorem dX12_isFound_20 : decode cX12_isFound 20 = .ok (.getfield 43, 3) := by decide +kernel
theorem dX12_isFound_23 : decode cX12_isFound 23 = .ok (.iload_n 2, 1) := by decide +kernel
theorem dX12_isFound_24 : decode cX12_isFound 24 = .ok (.bipush 7, 2) := by decide +kernel
theorem dX12_isFound_26 : decode cX12_isFound 26 = .ok (.iadd, 1) := by decide +kernel
theorem dX12_isFound_27 : decode cX12_isFound 27 = .ok (.iaload, 1) := by decide +kernel
theorem dX12_isFound_28 : decode cX12_isFound 28 = .ok (.if_icmp .ge 114, 3) := by decide +kernel
theorem dX12_isFound_31 : decode cX12_isFound 31 = .ok (.iload_n 3, 1) := by decide +kernel
theorem dX12_isFound_32 : decode cX12_isFound 32 = .ok (.ifCond .eq 110, 3) := by decide +kernel
theorem dX12_isFound_35 : decode cX12_isFound 35 = .ok (.iload_n 2, 1) := by decide +kernel
theorem dX12_isFound_36 : decode cX12_isFound 36 = .ok (.bipush 8, 2) := by decide +kernel
theorem dX12_isFound_38 : decode cX12_isFound 38 = .ok (.iadd, 1) := by decide +kernel
theorem dX12_isFound_39 : decode cX12_isFound 39 = .ok (.iconst 3, 1) := by decide +kernel
theorem dX12_isFound_40 : decode cX12_isFound 40 = .ok (.iload 4, 2) := by decide +kernel
theorem dX12_isFound_42 : decode cX12_isFound 42 = .ok (.imul, 1) := by decide +kernel
theorem dX12_isFound_43 : decode cX12_isFound 43 = .ok (.iadd, 1) := by decide +kernel
theorem dX12_isFound_44 : decode cX12_isFound 44 = .ok (.istore 5, 2) := by decide +kernel
theorem dX12_isFound_46 : decode cX12_isFound 46 = .ok (.aload_n 0, 1) := by decide +kernel
theorem dX12_isFound_47 : decode cX12_isFound 47 = .ok (.iload_n 1, 1) := by decide +kernel
theorem dX12_isFound_48 : decode cX12_isFound 48 = .ok (.aload_n 0, 1) := by decide +kernel
theorem dX12_isFound_49 : decode cX12_isFound 49 = .ok (.getfield 43, 3) := by decide +kernel
theorem dX12_isFound_52 : decode cX12_isFound 52 = .ok (.iload 5, 2) := by decide +kernel
theorem dX12_isFound_54 : decode cX12_isFound 54 = .ok (.iaload, 1) := by decide +kernel
theorem dX12_isFound_55 : decode cX12_isFound 55 = .ok (.invokevirtual 320, 3) := by decide +kernel
theorem dX12_isFound_58 : decode cX12_isFound 58 = .ok (.istore 6, 2) := by decide +kernel
theorem dX12_isFound_60 : decode cX12_isFound 60 = .ok (.aload_n 0, 1) := by decide +kernel
theorem dX12_isFound_61 : decode cX12_isFound 61 = .ok (.getfield 43, 3) := by decide +kernel
theorem dX12_isFound_64 : decode cX12_isFound 64 = .ok (.iload 5, 2) := by decide +kernel
theorem dX12_isFound_66 : decode cX12_isFound 66 = .ok (.iconst 2, 1) := by decide +kernel
theorem dX12_isFound_67 : decode cX12_isFound 67 = .ok (.iadd, 1) := by decide +kernel
theorem dX12_isFound_68 : decode cX12_isFound 68 = .ok (.iaload, 1) := by decide +kernel
theorem dX12_isFound_69 : decode cX12_isFound 69 = .ok (.ifCond .ge 30, 3) := by decide +kernel
theorem dX12_isFound_72 : decode cX12_isFound 72 = .ok (.iload 6, 2) := by decide +kernel
theorem dX12_isFound_74 : decode cX12_isFound 74 = .ok (.ifCond .ge 21, 3) := by decide +kernel
theorem dX12_isFound_77 : decode cX12_isFound 77 = .ok (.aload_n 0, 1) := by decide +kernel
theorem dX12_isFound_78 : decode cX12_isFound 78 = .ok (.getfield 43, 3) := by decide +kernel
theorem dX12_isFound_81 : decode cX12_isFound 81 = .ok (.iload 5, 2) := by decide +kernel
theorem dX12_isFound_83 : decode cX12_isFound 83 = .ok (.iconst 1, 1) := by decide +kernel
theorem dX12_isFound_84 : decode cX12_isFound 84 = .ok (.iadd, 1) := by decide +kernel
theorem dX12_isFound_85 : decode cX12_isFound 85 = .ok (.iaload, 1) := by decide +kernel
theorem dX12_isFound_86 : decode cX12_isFound 86 = .ok (.bipush 61, 2) := by decide +kernel
theorem dX12_isFound_88 : decode cX12_isFound 88 = .ok (.if_icmp .ne 7, 3) := by decide +kernel
theorem dX12_isFound_91 : decode cX12_isFound 91 = .ok (.iconst 1, 1) := by decide +kernel
theorem dX12_isFound_92 : decode cX12_isFound 92 = .ok (.goto 43, 3) := by decide +kernel
theorem dX12_isFound_95 : decode cX12_isFound 95 = .ok (.iconst 0, 1) := by decide +kernel
theorem dX12_isFound_96 : decode cX12_isFound 96 = .ok (.goto 39, 3) := by decide +kernel
theorem dX12_isFound_99 : decode cX12_isFound 99 = .ok (.iload 6, 2) := by decide +kernel
theorem dX12_isFound_101 : decode cX12_isFound 101 = .ok (.ifCond .lt 33, 3) := by decide +kernel
theorem dX12_isFound_104 : decode cX12_isFound 104 = .ok (.aload_n 0, 1) := by decide +kernel
theorem dX12_isFound_105 : decode cX12_isFound 105 = .ok (.getfield 43, 3) := by decide +kernel
theorem dX12_isFound_108 : decode cX12_isFound 108 = .ok (.iload 5, 2) := by decide +kernel
theorem dX12_isFound_110 : decode cX12_isFound 110 = .ok (.iconst 1, 1) := by decide +kernel
theorem dX12_isFound_111 : decode cX12_isFound 111 = .ok (.iadd, 1) := by decide +kernel
theorem dX12_isFound_112 : decode cX12_isFound 112 = .ok (.iaload, 1) := by decide +kernel
theorem dX12_isFound_113 : decode cX12_isFound 113 = .ok (.iload 6, 2) := by decide +kernel
theorem dX12_isFound_115 : decode cX12_isFound 115 = .ok (.aload_n 0, 1) := by decide +kernel
theorem dX12_isFound_116 : decode cX12_isFound 116 = .ok (.getfield 43, 3) := by decide +kernel
theorem dX12_isFound_119 : decode cX12_isFound 119 = .ok (.iload 5, 2) := by decide +kernel
theorem dX12_isFound_121 : decode cX12_isFound 121 = .ok (.iconst 2, 1) := by decide +kernel
theorem dX12_isFound_122 : decode cX12_isFound 122 = .ok (.iadd, 1) := by decide +kernel
theorem dX12_isFound_123 : decode cX12_isFound 123 = .ok (.iaload, 1) := by decide +kernel
theorem dX12_isFound_124 : decode cX12_isFound 124 = .ok (.invokestatic 336, 3) := by decide +kernel
theorem dX12_isFound_127 : decode cX12_isFound 127 = .ok (.ifCond .eq 7, 3) := by decide +kernel
theorem dX12_isFound_130 : decode cX12_isFound 130 = .ok (.iconst 1, 1) := by decide +kernel
theorem dX12_isFound_131 : decode cX12_isFound 131 = .ok (.goto 4, 3) := by decide +kernel
theorem dX12_isFound_134 : decode cX12_isFound 134 = .ok (.iconst 0, 1) := by decide +kernel
theorem dX12_isFound_135 : decode cX12_isFound 135 = .ok (.istore_n 3, 1) := by decide +kernel
theorem dX12_isFound_136 : decode cX12_isFound 136 = .ok (.iinc 4 1, 3) := by decide +kernel
theorem dX12_isFound_139 : decode cX12_isFound 139 = .ok (.goto (-122), 3) := by decide +kernel
theorem dX12_isFound_142 : decode cX12_isFound 142 = .ok (.iload_n 3, 1) := by decide +kernel
theorem dX12_isFound_143 : decode cX12_isFound 143 = .ok (.ireturn, 1) := by decide +kernel
abbrev M_X12_isFound : mM := (cX12_isFound, 7, RX12, some .boolean, false, 1, 22, 0, 0)
theorem gX12_isFound : cI yX12_isFound M_X12_isFound 2 := ⟨(wsl_43 _ (List.mem_of_getElem? (i := 6) rfl)), (wsl_43 _ (List.mem_of_getElem? (i := 7) rfl)), (wsl_1 _ (List.mem_of_getElem? (i := 5) rfl)), (wsl_43 _ (List.mem_of_getElem? (i := 8) rfl)), by decide +kernel⟩
noncomputable def fX12_isFound_b95 (h : hH) (a0 a1 a2 l4 : Int) : Option ((Int × Int) ⊕ (Int)) :=
  some (.inl (0, w32 (l4 + 1)))
noncomputable def fX12_isFound_s17 (h : hH) (a0 a1 a2 : Int) : Int × Int → Option ((Int × Int) ⊕ (Int)) := fun (l3, l4) =>
  (aget h (h a0 9) (w32 (a2 + 7))).bind fun v27 =>
  if l4 < v27 then
    if l3 = 0 then
      some (.inr (l3))
    else
      (aget h (h a0 9) (w32 ((w32 (a2 + 8)) + (w32 (3 * l4))))).bind fun v54 =>
      (fX12_cellOf h a0 a1 v54).bind fun r55 =>
      (aget h (h a0 9) (w32 ((w32 ((w32 (a2 + 8)) + (w32 (3 * l4)))) + 2))).bind fun v68 =>
      if v68 < 0 then
        if r55 < 0 then
          (aget h (h a0 9) (w32 ((w32 ((w32 (a2 + 8)) + (w32 (3 * l4)))) + 1))).bind fun v85 =>
          if v85 = 61 then
            some (.inl (1, w32 (l4 + 1)))
          else
            fX12_isFound_b95 h a0 a1 a2 l4
        else
          fX12_isFound_b95 h a0 a1 a2 l4
      else
        if r55 < 0 then
          some (.inl (0, w32 (l4 + 1)))
        else
          (aget h (h a0 9) (w32 ((w32 ((w32 (a2 + 8)) + (w32 (3 * l4)))) + 1))).bind fun v112 =>
          (aget h (h a0 9) (w32 ((w32 ((w32 (a2 + 8)) + (w32 (3 * l4)))) + 2))).bind fun v123 =>
          (fX12_isSo h v112 r55 v123).bind fun r124 =>
          if r124 = 0 then
            some (.inl (0, w32 (l4 + 1)))
          else
            some (.inl (1, w32 (l4 + 1)))
  else
    some (.inr (l3))
noncomputable def fX12_isFound (h : hH) (a0 a1 a2 : Int) : Option (Int) :=
  (aget h (h a0 9) (w32 (a2 + 1))).bind fun v9 =>
  (fX12_isRowOf h a0 a1 v9).bind fun r10 =>
  lpO (fX12_isFound_s17 h a0 a1 a2) (r10, 0)
section M_X12_isFound
variable {p : Program} {l : Launch} {e : Env} {R : Room} {s : State} {m : MethodId} {args : Array Value} {below : List Frame} {meth : Method} {c : Code} {D : va_G} {G : gG} {A : Nat → Prop} {H0 : Heap} {n0 : Int} {x : Option vV × hH} {h : hH}
set_option maxRecDepth 100000 in
set_option maxHeartbeats 4000000 in
theorem oX12_isFound_b95 {a0 a1 a2 l4 : Int} {K : (Int × Int) ⊕ (Int) → Prop} (k0 : ∀ r, K (.inr (r)) → x = (some (2, r), h)) (k1 : ∀ (l3 : Int) (l4 : Int), K (.inl (l3, l4)) → Wq p l e R s m args below meth c D G A H0 true n0 M_X12_isFound x 0 0 17 [(0, (22, a0)), (1, (0, a1)), (2, (0, a2)), (3, (2, l3)), (4, (0, l4))] [] h) {r : (Int × Int) ⊕ (Int)} (hr : fX12_isFound_b95 h a0 a1 a2 l4 = some r) (hk : K r) : Wq p l e R s m args below meth c D G A H0 true n0 M_X12_isFound x 0 0 95 [(0, (22, a0)), (1, (0, a1)), (2, (0, a2)), (4, (0, l4))] [] h := by
  unfold fX12_isFound_b95 at hr
  refine r_iconst dX12_isFound_95 (by decide) ?_
  refine r_goto dX12_isFound_96 (tgt := 135) (by decide) ?_
  refine r_istore_n dX12_isFound_135 rfl (Or.inl rfl) (by decide) (lv' := [(3, (0, 0)), (0, (22, a0)), (1, (0, a1)), (2, (0, a2)), (4, (0, l4))]) rfl ?_
  refine r_iinc (k := 4) (v := l4) dX12_isFound_136 rfl (by decide) (lv' := [(4, (0, w32 (l4 + 1))), (3, (0, 0)), (0, (22, a0)), (1, (0, a1)), (2, (0, a2))]) rfl ?_
  refine r_goto dX12_isFound_139 (tgt := 17) (by decide) ?_
  refine r_lcast 1 (v := (0, 0)) (w := (2, 0)) rfl cz (fun _ => Or.inl rfl) (lv' := [(4, (0, w32 (l4 + 1))), (3, (2, 0)), (0, (22, a0)), (1, (0, a1)), (2, (0, a2))]) rfl ?_
  refine r_sub [2, 3, 4, 1, 0] (lv' := [(0, (22, a0)), (1, (0, a1)), (2, (0, a2)), (3, (2, 0)), (4, (0, w32 (l4 + 1)))]) rfl ?_
  obtain rfl := Option.some.inj hr
  exact k1 _ _ hk
set_option maxRecDepth 100000 in
set_option maxHeartbeats 4000000 in
theorem oX12_isFound_s17 {a0 a1 a2 l3 l4 : Int} {K : (Int × Int) ⊕ (Int) → Prop} (k0 : ∀ r, K (.inr (r)) → x = (some (2, r), h)) (k1 : ∀ (l3 : Int) (l4 : Int), K (.inl (l3, l4)) → Wq p l e R s m args below meth c D G A H0 true n0 M_X12_isFound x 0 0 17 [(0, (22, a0)), (1, (0, a1)), (2, (0, a2)), (3, (2, l3)), (4, (0, l4))] [] h) {r : (Int × Int) ⊕ (Int)} (hr : fX12_isFound_s17 h a0 a1 a2 (l3, l4) = some r) (hk : K r) : Wq p l e R s m args below meth c D G A H0 true n0 M_X12_isFound x 0 0 17 [(0, (22, a0)), (1, (0, a1)), (2, (0, a2)), (3, (2, l3)), (4, (0, l4))] [] h := by
  unfold fX12_isFound_s17 at hr
  refine r_iload dX12_isFound_17 4 rfl (Or.inl rfl) ?_
  refine r_aload_n dX12_isFound_19 rfl 0 rfl (nl rfl) ?_
  refine r_get 12 9 (o := a0) (w := (50, h a0 9)) (T := TX12) (ref := "FollowingRefsModel") rfl (by decide) rfl (by decide) inlX12 (wsl_7 _ (List.mem_of_getElem? (i := 11) rfl)) rfl dX12_isFound_20 rfl ?_
  refine r_iload_n dX12_isFound_23 rfl 2 rfl (Or.inl rfl) ?_
  refine r_bipush dX12_isFound_24 (by decide) (by decide) ?_
  refine r_iadd dX12_isFound_26 ?_
  obtain ⟨v27, hg27, hr⟩ := bnd hr
  refine r_iald dX12_isFound_27 hg27 ?_
  refine r_icmp_ge dX12_isFound_28 (tgt := 142) (by decide) (fun hc => ?_) (fun hc => ?_)
  · have hr := ifn hr hc
    refine r_iload_n dX12_isFound_142 rfl 3 rfl (Or.inr rfl) ?_
    obtain rfl := Option.some.inj hr
    exact r_ret dX12_isFound_143 rfl (Or.inr ⟨rfl, rfl⟩) (k0 _ hk) ⟨rfl, rfl⟩
  · have hr := ifp hr hc
    refine r_iload_n dX12_isFound_31 rfl 3 rfl (Or.inr rfl) ?_
    refine r_scast 0 (v := (2, l3)) (w := (0, l3)) rfl zc hTz (st' := [(0, l3)]) rfl ?_
    refine r_if_eq dX12_isFound_32 (tgt := 142) (by decide) (fun hc => ?_) (fun hc => ?_)
    · have hr := ifp hr hc
      refine r_iload_n dX12_isFound_142 rfl 3 rfl (Or.inr rfl) ?_
      obtain rfl := Option.some.inj hr
      exact r_ret dX12_isFound_143 rfl (Or.inr ⟨rfl, rfl⟩) (k0 _ hk) ⟨rfl, rfl⟩
    · have hr := ifn hr hc
      refine r_iload_n dX12_isFound_35 rfl 2 rfl (Or.inl rfl) ?_
      refine r_bipush dX12_isFound_36 (by decide) (by decide) ?_
      refine r_iadd dX12_isFound_38 ?_
      refine r_iconst dX12_isFound_39 (by decide) ?_
      refine r_iload dX12_isFound_40 4 rfl (Or.inl rfl) ?_
      refine r_imul dX12_isFound_42 ?_
      refine r_iadd dX12_isFound_43 ?_
      refine r_istore dX12_isFound_44 (Or.inl rfl) (by decide) (lv' := [(5, (0, w32 ((w32 (a2 + 8)) + (w32 (3 * l4))))), (0, (22, a0)), (1, (0, a1)), (2, (0, a2)), (3, (2, l3)), (4, (0, l4))]) rfl ?_
      refine r_aload_n dX12_isFound_46 rfl 1 rfl (nl rfl) ?_
      refine r_iload_n dX12_isFound_47 rfl 2 rfl (Or.inl rfl) ?_
      refine r_aload_n dX12_isFound_48 rfl 1 rfl (nl rfl) ?_
      refine r_get 12 9 (o := a0) (w := (50, h a0 9)) (T := TX12) (ref := "FollowingRefsModel") rfl (by decide) rfl (by decide) inlX12 (wsl_7 _ (List.mem_of_getElem? (i := 11) rfl)) rfl dX12_isFound_49 rfl ?_
      refine r_iload dX12_isFound_52 0 rfl (Or.inl rfl) ?_
      obtain ⟨v54, hg54, hr⟩ := bnd hr
      refine r_iald dX12_isFound_54 hg54 ?_
      obtain ⟨r55, hg55, hr⟩ := bnd hr
      refine k_V (ci := 12) (o := a0) (T := TX12) (as := [(0, a1), (0, v54)]) (rest := []) (X := (some (0, r55), h)) (oX12_cellOf hg55) gX12_cellOf rfl (by decide) rfl (wsl_42 _ (List.mem_of_getElem? (i := 17) rfl)) rfl dX12_isFound_55 rfl ?_
      refine r_istore dX12_isFound_58 (Or.inl rfl) (by decide) (lv' := [(6, (0, r55)), (5, (0, w32 ((w32 (a2 + 8)) + (w32 (3 * l4))))), (0, (22, a0)), (1, (0, a1)), (2, (0, a2)), (3, (2, l3)), (4, (0, l4))]) rfl ?_
      refine r_aload_n dX12_isFound_60 rfl 2 rfl (nl rfl) ?_
      refine r_get 12 9 (o := a0) (w := (50, h a0 9)) (T := TX12) (ref := "FollowingRefsModel") rfl (by decide) rfl (by decide) inlX12 (wsl_7 _ (List.mem_of_getElem? (i := 11) rfl)) rfl dX12_isFound_61 rfl ?_
      refine r_iload dX12_isFound_64 1 rfl (Or.inl rfl) ?_
      refine r_iconst dX12_isFound_66 (by decide) ?_
      refine r_iadd dX12_isFound_67 ?_
      obtain ⟨v68, hg68, hr⟩ := bnd hr
      refine r_iald dX12_isFound_68 hg68 ?_
      refine r_if_ge dX12_isFound_69 (tgt := 99) (by decide) (fun hc => ?_) (fun hc => ?_)
      · have hr := ifn hr hc
        refine r_iload dX12_isFound_99 0 rfl (Or.inl rfl) ?_
        refine r_if_lt dX12_isFound_101 (tgt := 134) (by decide) (fun hc => ?_) (fun hc => ?_)
        · have hr := ifp hr hc
          refine r_iconst dX12_isFound_134 (by decide) ?_
          refine r_istore_n dX12_isFound_135 rfl (Or.inl rfl) (by decide) (lv' := [(3, (0, 0)), (6, (0, r55)), (5, (0, w32 ((w32 (a2 + 8)) + (w32 (3 * l4))))), (0, (22, a0)), (1, (0, a1)), (2, (0, a2)), (4, (0, l4))]) rfl ?_
          refine r_iinc (k := 6) (v := l4) dX12_isFound_136 rfl (by decide) (lv' := [(4, (0, w32 (l4 + 1))), (3, (0, 0)), (6, (0, r55)), (5, (0, w32 ((w32 (a2 + 8)) + (w32 (3 * l4))))), (0, (22, a0)), (1, (0, a1)), (2, (0, a2))]) rfl ?_
          refine r_goto dX12_isFound_139 (tgt := 17) (by decide) ?_
          refine r_lcast 1 (v := (0, 0)) (w := (2, 0)) rfl cz (fun _ => Or.inl rfl) (lv' := [(4, (0, w32 (l4 + 1))), (3, (2, 0)), (6, (0, r55)), (5, (0, w32 ((w32 (a2 + 8)) + (w32 (3 * l4))))), (0, (22, a0)), (1, (0, a1)), (2, (0, a2))]) rfl ?_
          refine r_sub [4, 5, 6, 1, 0] (lv' := [(0, (22, a0)), (1, (0, a1)), (2, (0, a2)), (3, (2, 0)), (4, (0, w32 (l4 + 1)))]) rfl ?_
          obtain rfl := Option.some.inj hr
          exact k1 _ _ hk
        · have hr := ifn hr hc
          refine r_aload_n dX12_isFound_104 rfl 2 rfl (nl rfl) ?_
          refine r_get 12 9 (o := a0) (w := (50, h a0 9)) (T := TX12) (ref := "FollowingRefsModel") rfl (by decide) rfl (by decide) inlX12 (wsl_7 _ (List.mem_of_getElem? (i := 11) rfl)) rfl dX12_isFound_105 rfl ?_
          refine r_iload dX12_isFound_108 1 rfl (Or.inl rfl) ?_
          refine r_iconst dX12_isFound_110 (by decide) ?_
          refine r_iadd dX12_isFound_111 ?_
          obtain ⟨v112, hg112, hr⟩ := bnd hr
          refine r_iald dX12_isFound_112 hg112 ?_
          refine r_iload dX12_isFound_113 0 rfl (Or.inl rfl) ?_
          refine r_aload_n dX12_isFound_115 rfl 2 rfl (nl rfl) ?_
          refine r_get 12 9 (o := a0) (w := (50, h a0 9)) (T := TX12) (ref := "FollowingRefsModel") rfl (by decide) rfl (by decide) inlX12 (wsl_7 _ (List.mem_of_getElem? (i := 11) rfl)) rfl dX12_isFound_116 rfl ?_
          refine r_iload dX12_isFound_119 1 rfl (Or.inl rfl) ?_
          refine r_iconst dX12_isFound_121 (by decide) ?_
          refine r_iadd dX12_isFound_122 ?_
          obtain ⟨v123, hg123, hr⟩ := bnd hr
          refine r_iald dX12_isFound_123 hg123 ?_
          obtain ⟨r124, hg124, hr⟩ := bnd hr
          refine k_S (as := [(0, v112), (0, r55), (0, v123)]) (rest := []) (X := (some (2, r124), h)) (oX12_isSo hg124) gX12_isSo rfl (wsl_43 _ (List.mem_of_getElem? (i := 13) rfl)) rfl dX12_isFound_124 rfl ?_
          refine r_scast 0 (v := (2, r124)) (w := (0, r124)) rfl zc hTz (st' := [(0, r124)]) rfl ?_
          refine r_if_eq dX12_isFound_127 (tgt := 134) (by decide) (fun hc => ?_) (fun hc => ?_)
          · have hr := ifp hr hc
            refine r_iconst dX12_isFound_134 (by decide) ?_
            refine r_istore_n dX12_isFound_135 rfl (Or.inl rfl) (by decide) (lv' := [(3, (0, 0)), (6, (0, r55)), (5, (0, w32 ((w32 (a2 + 8)) + (w32 (3 * l4))))), (0, (22, a0)), (1, (0, a1)), (2, (0, a2)), (4, (0, l4))]) rfl ?_
            refine r_iinc (k := 6) (v := l4) dX12_isFound_136 rfl (by decide) (lv' := [(4, (0, w32 (l4 + 1))), (3, (0, 0)), (6, (0, r55)), (5, (0, w32 ((w32 (a2 + 8)) + (w32 (3 * l4))))), (0, (22, a0)), (1, (0, a1)), (2, (0, a2))]) rfl ?_
            refine r_goto dX12_isFound_139 (tgt := 17) (by decide) ?_
            refine r_lcast 1 (v := (0, 0)) (w := (2, 0)) rfl cz (fun _ => Or.inl rfl) (lv' := [(4, (0, w32 (l4 + 1))), (3, (2, 0)), (6, (0, r55)), (5, (0, w32 ((w32 (a2 + 8)) + (w32 (3 * l4))))), (0, (22, a0)), (1, (0, a1)), (2, (0, a2))]) rfl ?_
            refine r_sub [4, 5, 6, 1, 0] (lv' := [(0, (22, a0)), (1, (0, a1)), (2, (0, a2)), (3, (2, 0)), (4, (0, w32 (l4 + 1)))]) rfl ?_
            obtain rfl := Option.some.inj hr
            exact k1 _ _ hk
          · have hr := ifn hr hc
            refine r_iconst dX12_isFound_130 (by decide) ?_
            refine r_goto dX12_isFound_131 (tgt := 135) (by decide) ?_
            refine r_istore_n dX12_isFound_135 rfl (Or.inl rfl) (by decide) (lv' := [(3, (0, 1)), (6, (0, r55)), (5, (0, w32 ((w32 (a2 + 8)) + (w32 (3 * l4))))), (0, (22, a0)), (1, (0, a1)), (2, (0, a2)), (4, (0, l4))]) rfl ?_
            refine r_iinc (k := 6) (v := l4) dX12_isFound_136 rfl (by decide) (lv' := [(4, (0, w32 (l4 + 1))), (3, (0, 1)), (6, (0, r55)), (5, (0, w32 ((w32 (a2 + 8)) + (w32 (3 * l4))))), (0, (22, a0)), (1, (0, a1)), (2, (0, a2))]) rfl ?_
            refine r_goto dX12_isFound_139 (tgt := 17) (by decide) ?_
            refine r_lcast 1 (v := (0, 1)) (w := (2, 1)) rfl cz (fun _ => Or.inr rfl) (lv' := [(4, (0, w32 (l4 + 1))), (3, (2, 1)), (6, (0, r55)), (5, (0, w32 ((w32 (a2 + 8)) + (w32 (3 * l4))))), (0, (22, a0)), (1, (0, a1)), (2, (0, a2))]) rfl ?_
            refine r_sub [4, 5, 6, 1, 0] (lv' := [(0, (22, a0)), (1, (0, a1)), (2, (0, a2)), (3, (2, 1)), (4, (0, w32 (l4 + 1)))]) rfl ?_
            obtain rfl := Option.some.inj hr
            exact k1 _ _ hk
      · have hr := ifp hr hc
        refine r_iload dX12_isFound_72 0 rfl (Or.inl rfl) ?_
        refine r_if_ge dX12_isFound_74 (tgt := 95) (by decide) (fun hc => ?_) (fun hc => ?_)
        · have hr := ifn hr hc
          refine r_sub [2, 3, 4, 6] (lv' := [(0, (22, a0)), (1, (0, a1)), (2, (0, a2)), (4, (0, l4))]) rfl ?_
          exact oX12_isFound_b95 (K := K) (fun r z => k0 r z) (fun _ _ z => k1 _ _ z) hr hk
        · have hr := ifp hr hc
          refine r_aload_n dX12_isFound_77 rfl 2 rfl (nl rfl) ?_
          refine r_get 12 9 (o := a0) (w := (50, h a0 9)) (T := TX12) (ref := "FollowingRefsModel") rfl (by decide) rfl (by decide) inlX12 (wsl_7 _ (List.mem_of_getElem? (i := 11) rfl)) rfl dX12_isFound_78 rfl ?_
          refine r_iload dX12_isFound_81 1 rfl (Or.inl rfl) ?_
          refine r_iconst dX12_isFound_83 (by decide) ?_
          refine r_iadd dX12_isFound_84 ?_
          obtain ⟨v85, hg85, hr⟩ := bnd hr
          refine r_iald dX12_isFound_85 hg85 ?_
          refine r_bipush dX12_isFound_86 (by decide) (by decide) ?_
          refine r_icmp_ne dX12_isFound_88 (tgt := 95) (by decide) (fun hc => ?_) (fun hc => ?_)
          · have hr := ifn hr hc
            refine r_sub [2, 3, 4, 6] (lv' := [(0, (22, a0)), (1, (0, a1)), (2, (0, a2)), (4, (0, l4))]) rfl ?_
            exact oX12_isFound_b95 (K := K) (fun r z => k0 r z) (fun _ _ z => k1 _ _ z) hr hk
          · have hr := ifp hr hc
            refine r_iconst dX12_isFound_91 (by decide) ?_
            refine r_goto dX12_isFound_92 (tgt := 135) (by decide) ?_
            refine r_istore_n dX12_isFound_135 rfl (Or.inl rfl) (by decide) (lv' := [(3, (0, 1)), (6, (0, r55)), (5, (0, w32 ((w32 (a2 + 8)) + (w32 (3 * l4))))), (0, (22, a0)), (1, (0, a1)), (2, (0, a2)), (4, (0, l4))]) rfl ?_
            refine r_iinc (k := 6) (v := l4) dX12_isFound_136 rfl (by decide) (lv' := [(4, (0, w32 (l4 + 1))), (3, (0, 1)), (6, (0, r55)), (5, (0, w32 ((w32 (a2 + 8)) + (w32 (3 * l4))))), (0, (22, a0)), (1, (0, a1)), (2, (0, a2))]) rfl ?_
            refine r_goto dX12_isFound_139 (tgt := 17) (by decide) ?_
            refine r_lcast 1 (v := (0, 1)) (w := (2, 1)) rfl cz (fun _ => Or.inr rfl) (lv' := [(4, (0, w32 (l4 + 1))), (3, (2, 1)), (6, (0, r55)), (5, (0, w32 ((w32 (a2 + 8)) + (w32 (3 * l4))))), (0, (22, a0)), (1, (0, a1)), (2, (0, a2))]) rfl ?_
            refine r_sub [4, 5, 6, 1, 0] (lv' := [(0, (22, a0)), (1, (0, a1)), (2, (0, a2)), (3, (2, 1)), (4, (0, w32 (l4 + 1)))]) rfl ?_
            obtain rfl := Option.some.inj hr
            exact k1 _ _ hk
set_option maxRecDepth 100000 in
set_option maxHeartbeats 4000000 in
theorem oX12_isFound_b0 {a0 a1 a2 : Int} {K : Int → Prop} (k0 : ∀ r, K (r) → x = (some (2, r), h)) {r : Int} (hr : fX12_isFound h a0 a1 a2 = some r) (hk : K r) : Wq p l e R s m args below meth c D G A H0 true n0 M_X12_isFound x 0 0 0 [(0, (22, a0)), (1, (0, a1)), (2, (0, a2))] [] h := by
  unfold fX12_isFound at hr
  refine r_aload_n dX12_isFound_0 rfl 0 rfl (nl rfl) ?_
  refine r_iload_n dX12_isFound_1 rfl 1 rfl (Or.inl rfl) ?_
  refine r_aload_n dX12_isFound_2 rfl 0 rfl (nl rfl) ?_
  refine r_get 12 9 (o := a0) (w := (50, h a0 9)) (T := TX12) (ref := "FollowingRefsModel") rfl (by decide) rfl (by decide) inlX12 (wsl_7 _ (List.mem_of_getElem? (i := 11) rfl)) rfl dX12_isFound_3 rfl ?_
  refine r_iload_n dX12_isFound_6 rfl 2 rfl (Or.inl rfl) ?_
  refine r_iconst dX12_isFound_7 (by decide) ?_
  refine r_iadd dX12_isFound_8 ?_
  obtain ⟨v9, hg9, hr⟩ := bnd hr
  refine r_iald dX12_isFound_9 hg9 ?_
  obtain ⟨r10, hg10, hr⟩ := bnd hr
  refine k_V (ci := 12) (o := a0) (T := TX12) (as := [(0, a1), (0, v9)]) (rest := []) (X := (some (2, r10), h)) (oX12_isRowOf hg10) gX12_isRowOf rfl (by decide) rfl (wsl_43 _ (List.mem_of_getElem? (i := 9) rfl)) rfl dX12_isFound_10 rfl ?_
  refine r_istore_n dX12_isFound_13 rfl (Or.inr rfl) (by decide) (lv' := [(3, (2, r10)), (0, (22, a0)), (1, (0, a1)), (2, (0, a2))]) rfl ?_
  refine r_iconst dX12_isFound_14 (by decide) ?_
  refine r_istore dX12_isFound_15 (Or.inl rfl) (by decide) (lv' := [(4, (0, 0)), (3, (2, r10)), (0, (22, a0)), (1, (0, a1)), (2, (0, a2))]) rfl ?_
  refine r_sub [2, 3, 4, 1, 0] (lv' := [(0, (22, a0)), (1, (0, a1)), (2, (0, a2)), (3, (2, r10)), (4, (0, 0))]) rfl ?_
  exact lp_ok (w := fun (q : Int × Int) => Wq p l e R s m args below meth c D G A H0 true n0 M_X12_isFound x 0 0 17 [(0, (22, a0)), (1, (0, a1)), (2, (0, a2)), (3, (2, q.1)), (4, (0, q.2))] [] (h)) (K := K) (fun ⟨q0, q1⟩ r h1 h2 => oX12_isFound_s17 (K := Sum.elim (fun (q : Int × Int) => Wq p l e R s m args below meth c D G A H0 true n0 M_X12_isFound x 0 0 17 [(0, (22, a0)), (1, (0, a1)), (2, (0, a2)), (3, (2, q.1)), (4, (0, q.2))] [] (h)) (K)) (fun r z => k0 r z) (fun _ _ z => z) h1 h2) hr hk
end M_X12_isFound
theorem oX12_isFound {l : Launch} {D : va_G} {G : gG} {h : hH} {a0 a1 a2 : Int} {r : Int} (hr : fX12_isFound h a0 a1 a2 = some r) : Ctr l D G true yX12_isFound M_X12_isFound [(22, a0), (0, a1), (0, a2)] h (some (2, r), h) :=
  Ctr_of (by decide) rfl (fun z => by cases z) (nl rfl) (fun {p e R s m args below meth c A H0} => by
    exact oX12_isFound_b0 (K := fun z9 => z9 = r) (fun r9 z => by rw [z]) hr rfl)
/-! X12_wants -/
theorem dX12_wants_0 : decode cX12_wants 0 = .ok (.iconst 4, 1) := by decide +kernel
theorem dX12_wants_1 : decode cX12_wants 1 = .ok (.iload_n 1, 1) := by decide +kernel
theorem dX12_wants_2 : decode cX12_wants 2 = .ok (.imul, 1) := by decide +kernel
theorem dX12_wants_3 : decode cX12_wants 3 = .ok (.iload_n 2, 1) := by decide +kernel
theorem dX12_wants_4 : decode cX12_wants 4 = .ok (.iadd, 1) := by decide +kernel
theorem dX12_wants_5 : decode cX12_wants 5 = .ok (.istore 4, 2) := by decide +kernel
theorem dX12_wants_7 : decode cX12_wants 7 = .ok (.aload_n 0, 1) := by decide +kernel
theorem dX12_wants_8 : decode cX12_wants 8 = .ok (.getfield 62, 3) := by decide +kernel
theorem dX12_wants_11 : decode cX12_wants 11 = .ok (.iload 4, 2) := by decide +kernel
theorem dX12_wants_13 : decode cX12_wants 13 = .ok (.iaload, 1) := by decide +kernel
theorem dX12_wants_14 : decode cX12_wants 14 = .ok (.bipush (-9), 2) := by decide +kernel
theorem dX12_wants_16 : decode cX12_wants 16 = .ok (.if_icmp .ne 19, 3) := by decide +kernel
theorem dX12_wants_19 : decode cX12_wants 19 = .ok (.aload_n 0, 1) := by decide +kernel
theorem dX12_wants_20 : decode cX12_wants 20 = .ok (.getfield 62, 3) := by decide +kernel
theorem dX12_wants_23 : decode cX12_wants 23 = .ok (.iload 4, 2) := by decide +kernel
theorem dX12_wants_25 : decode cX12_wants 25 = .ok (.iload_n 3, 1) := by decide +kernel
theorem dX12_wants_26 : decode cX12_wants 26 = .ok (.iastore, 1) := by decide +kernel
theorem dX12_wants_27 : decode cX12_wants 27 = .ok (.aload_n 0, 1) := by decide +kernel
theorem dX12_wants_28 : decode cX12_wants 28 = .ok (.iconst 1, 1) := by decide +kernel
theorem dX12_wants_29 : decode cX12_wants 29 = .ok (.putfield 376, 3) := by decide +kernel
theorem dX12_wants_32 : decode cX12_wants 32 = .ok (.goto 30, 3) := by decide +kernel
theorem dX12_wants_35 : decode cX12_wants 35 = .ok (.aload_n 0, 1) := by decide +kernel
theorem dX12_wants_36 : decode cX12_wants 36 = .ok (.aload_n 0, 1) := by decide +kernel
theorem dX12_wants_37 : decode cX12_wants 37 = .ok (.getfield 380, 3) := by decide +kernel
theorem dX12_wants_40 : decode cX12_wants 40 = .ok (.ifCond .ne 14, 3) := by decide +kernel
theorem dX12_wants_43 : decode cX12_wants 43 = .ok (.aload_n 0, 1) := by decide +kernel
theorem dX12_wants_44 : decode cX12_wants 44 = .ok (.getfield 62, 3) := by decide +kernel
theorem dX12_wants_47 : decode cX12_wants 47 = .ok (.iload 4, 2) := by decide +kernel
theorem dX12_wants_49 : decode cX12_wants 49 = .ok (.iaload, 1) := by decide +kernel
theorem dX12_wants_50 : decode cX12_wants 50 = .ok (.iload_n 3, 1) := by decide +kernel
theorem dX12_wants_51 : decode cX12_wants 51 = .ok (.if_icmp .eq 7, 3) := by decide +kernel
theorem dX12_wants_54 : decode cX12_wants 54 = .ok (.iconst 1, 1) := by decide +kernel
theorem dX12_wants_55 : decode cX12_wants 55 = .ok (.goto 4, 3) := by decide +kernel
theorem dX12_wants_58 : decode cX12_wants 58 = .ok (.iconst 0, 1) := by decide +kernel
theorem dX12_wants_59 : decode cX12_wants 59 = .ok (.putfield 380, 3) := by decide +kernel
theorem dX12_wants_62 : decode cX12_wants 62 = .ok (.return_, 1) := by decide +kernel
abbrev M_X12_wants : mM := (cX12_wants, 5, RX12, none, false, 0, 0, 0, 0)
theorem gX12_wants : cI yX12_wants M_X12_wants 3 := ⟨(wsl_43 _ (List.mem_of_getElem? (i := 17) rfl)), (wsl_43 _ (List.mem_of_getElem? (i := 18) rfl)), (wsl_1 _ (List.mem_of_getElem? (i := 5) rfl)), (wsl_43 _ (List.mem_of_getElem? (i := 19) rfl)), by decide +kernel⟩
noncomputable def fX12_wants_b59 (h : hH) (s0 s1 : Int) : Option (hH) :=
  (pput h s1 34 s0).bind fun h59 =>
  some h59
noncomputable def fX12_wants_b54 (h : hH) (s0 : Int) : Option (hH) :=
  fX12_wants_b59 h 1 s0
noncomputable def fX12_wants (h : hH) (a0 a1 a2 a3 : Int) : Option (hH) :=
  (aget h (h a0 27) (w32 ((w32 (4 * a1)) + a2))).bind fun v13 =>
  if v13 = -9 then
    (aput h (h a0 27) (w32 ((w32 (4 * a1)) + a2)) a3).bind fun h26 =>
    (pput h26 a0 35 1).bind fun h29 =>
    some h29
  else
    if h a0 34 = 0 then
      (aget h (h a0 27) (w32 ((w32 (4 * a1)) + a2))).bind fun v49 =>
      if v49 = a3 then
        fX12_wants_b59 h 0 a0
      else
        fX12_wants_b54 h a0
    else
      fX12_wants_b54 h a0
section M_X12_wants
variable {p : Program} {l : Launch} {e : Env} {R : Room} {s : State} {m : MethodId} {args : Array Value} {below : List Frame} {meth : Method} {c : Code} {D : va_G} {G : gG} {A : Nat → Prop} {H0 : Heap} {n0 : Int} {x : Option vV × hH} {h : hH}
set_option maxRecDepth 100000 in
set_option maxHeartbeats 4000000 in
theorem oX12_wants_b59 {s0 s1 : Int} {K : hH → Prop} (k0 : ∀ r, K (r) → x = (none, r)) {r : hH} (hr : fX12_wants_b59 h s0 s1 = some r) (hk : K r) : Wq p l e R s m args below meth c D G A H0 true n0 M_X12_wants x 0 0 59 [] [(2, s0), (22, s1)] h := by
  unfold fX12_wants_b59 at hr
  obtain ⟨h59, hg59, hr⟩ := bnd hr
  refine r_put' 12 34 (t := 2) (ref := "FollowingRefsModel") hg59 rfl tyX12 tyX12_ok nmX12 rfl (by decide) rfl (by decide) inlX12 (wsl_42 _ (List.mem_of_getElem? (i := 6) rfl)) rfl rfl (by decide +kernel) (by decide) rfl (Or.inr (Or.inr (Or.inl ⟨rfl, rfl⟩))) dX12_wants_59 ?_
  obtain rfl := Option.some.inj hr
  exact r_vret dX12_wants_62 rfl (k0 _ hk) ⟨rfl, rfl⟩
set_option maxRecDepth 100000 in
set_option maxHeartbeats 4000000 in
theorem oX12_wants_b54 {s0 : Int} {K : hH → Prop} (k0 : ∀ r, K (r) → x = (none, r)) {r : hH} (hr : fX12_wants_b54 h s0 = some r) (hk : K r) : Wq p l e R s m args below meth c D G A H0 true n0 M_X12_wants x 0 0 54 [] [(22, s0)] h := by
  unfold fX12_wants_b54 at hr
  refine r_iconst dX12_wants_54 (by decide) ?_
  refine r_goto dX12_wants_55 (tgt := 59) (by decide) ?_
  refine r_scast 0 (v := (0, 1)) (w := (2, 1)) rfl cz (fun _ => Or.inr rfl) (st' := [(2, 1), (22, s0)]) rfl ?_
  exact oX12_wants_b59 (K := K) (fun r z => k0 r z) hr hk
set_option maxRecDepth 100000 in
set_option maxHeartbeats 4000000 in
theorem oX12_wants_b0 {a0 a1 a2 a3 : Int} {K : hH → Prop} (k0 : ∀ r, K (r) → x = (none, r)) {r : hH} (hr : fX12_wants h a0 a1 a2 a3 = some r) (hk : K r) : Wq p l e R s m args below meth c D G A H0 true n0 M_X12_wants x 0 0 0 [(0, (22, a0)), (1, (0, a1)), (2, (0, a2)), (3, (0, a3))] [] h := by
  unfold fX12_wants at hr
  refine r_iconst dX12_wants_0 (by decide) ?_
  refine r_iload_n dX12_wants_1 rfl 1 rfl (Or.inl rfl) ?_
  refine r_imul dX12_wants_2 ?_
  refine r_iload_n dX12_wants_3 rfl 2 rfl (Or.inl rfl) ?_
  refine r_iadd dX12_wants_4 ?_
  refine r_istore dX12_wants_5 (Or.inl rfl) (by decide) (lv' := [(4, (0, w32 ((w32 (4 * a1)) + a2))), (0, (22, a0)), (1, (0, a1)), (2, (0, a2)), (3, (0, a3))]) rfl ?_
  refine r_aload_n dX12_wants_7 rfl 1 rfl (nl rfl) ?_
  refine r_get 12 27 (o := a0) (w := (50, h a0 27)) (T := TX12) (ref := "FollowingRefsModel") rfl (by decide) rfl (by decide) inlX12 (wsl_7 _ (List.mem_of_getElem? (i := 17) rfl)) rfl dX12_wants_8 rfl ?_
  refine r_iload dX12_wants_11 0 rfl (Or.inl rfl) ?_
  obtain ⟨v13, hg13, hr⟩ := bnd hr
  refine r_iald dX12_wants_13 hg13 ?_
  refine r_bipush dX12_wants_14 (by decide) (by decide) ?_
  refine r_icmp_ne dX12_wants_16 (tgt := 35) (by decide) (fun hc => ?_) (fun hc => ?_)
  · have hr := ifn hr hc
    refine r_aload_n dX12_wants_35 rfl 1 rfl (nl rfl) ?_
    refine r_aload_n dX12_wants_36 rfl 1 rfl (nl rfl) ?_
    refine r_get 12 34 (o := a0) (w := (2, h a0 34)) (T := TX12) (ref := "FollowingRefsModel") rfl (by decide) rfl (by decide) inlX12 (wsl_42 _ (List.mem_of_getElem? (i := 6) rfl)) rfl dX12_wants_37 rfl ?_
    refine r_scast 0 (v := (2, h a0 34)) (w := (0, h a0 34)) rfl zc hTz (st' := [(0, h a0 34), (22, a0)]) rfl ?_
    refine r_if_ne dX12_wants_40 (tgt := 54) (by decide) (fun hc => ?_) (fun hc => ?_)
    · have hr := ifn hr hc
      refine r_sub [] (lv' := []) rfl ?_
      exact oX12_wants_b54 (K := K) (fun r z => k0 r z) hr hk
    · have hr := ifp hr hc
      refine r_aload_n dX12_wants_43 rfl 1 rfl (nl rfl) ?_
      refine r_get 12 27 (o := a0) (w := (50, h a0 27)) (T := TX12) (ref := "FollowingRefsModel") rfl (by decide) rfl (by decide) inlX12 (wsl_7 _ (List.mem_of_getElem? (i := 17) rfl)) rfl dX12_wants_44 rfl ?_
      refine r_iload dX12_wants_47 0 rfl (Or.inl rfl) ?_
      obtain ⟨v49, hg49, hr⟩ := bnd hr
      refine r_iald dX12_wants_49 hg49 ?_
      refine r_iload_n dX12_wants_50 rfl 4 rfl (Or.inl rfl) ?_
      refine r_icmp_eq dX12_wants_51 (tgt := 58) (by decide) (fun hc => ?_) (fun hc => ?_)
      · have hr := ifp hr hc
        refine r_iconst dX12_wants_58 (by decide) ?_
        refine r_sub [] (lv' := []) rfl ?_
        refine r_scast 0 (v := (0, 0)) (w := (2, 0)) rfl cz (fun _ => Or.inl rfl) (st' := [(2, 0), (22, a0)]) rfl ?_
        exact oX12_wants_b59 (K := K) (fun r z => k0 r z) hr hk
      · have hr := ifn hr hc
        refine r_sub [] (lv' := []) rfl ?_
        exact oX12_wants_b54 (K := K) (fun r z => k0 r z) hr hk
  · have hr := ifp hr hc
    refine r_aload_n dX12_wants_19 rfl 1 rfl (nl rfl) ?_
    refine r_get 12 27 (o := a0) (w := (50, h a0 27)) (T := TX12) (ref := "FollowingRefsModel") rfl (by decide) rfl (by decide) inlX12 (wsl_7 _ (List.mem_of_getElem? (i := 17) rfl)) rfl dX12_wants_20 rfl ?_
    refine r_iload dX12_wants_23 0 rfl (Or.inl rfl) ?_
    refine r_iload_n dX12_wants_25 rfl 4 rfl (Or.inl rfl) ?_
    obtain ⟨h26, hg26, hr⟩ := bnd hr
    refine r_iast dX12_wants_26 hg26 ?_
    refine r_aload_n dX12_wants_27 rfl 1 rfl (nl rfl) ?_
    refine r_iconst dX12_wants_28 (by decide) ?_
    refine r_scast 0 (v := (0, 1)) (w := (2, 1)) rfl cz (fun _ => Or.inr rfl) (st' := [(2, 1), (22, a0)]) rfl ?_
    obtain ⟨h29, hg29, hr⟩ := bnd hr
    refine r_put' 12 35 (t := 2) (ref := "FollowingRefsModel") hg29 rfl tyX12 tyX12_ok nmX12 rfl (by decide) rfl (by decide) inlX12 (wsl_42 _ (List.mem_of_getElem? (i := 8) rfl)) rfl rfl (by decide +kernel) (by decide) rfl (Or.inr (Or.inr (Or.inl ⟨rfl, rfl⟩))) dX12_wants_29 ?_
    refine r_goto dX12_wants_32 (tgt := 62) (by decide) ?_
    obtain rfl := Option.some.inj hr
    exact r_vret dX12_wants_62 rfl (k0 _ hk) ⟨rfl, rfl⟩
end M_X12_wants
theorem oX12_wants {l : Launch} {D : va_G} {G : gG} {h : hH} {a0 a1 a2 a3 : Int} {r : hH} (hr : fX12_wants h a0 a1 a2 a3 = some r) : Ctr l D G true yX12_wants M_X12_wants [(22, a0), (0, a1), (0, a2), (0, a3)] h (none, r) :=
  Ctr_of (by decide) rfl (fun z => by cases z) (nl rfl) (fun {p e R s m args below meth c A H0} => by
    exact oX12_wants_b0 (K := fun z9 => z9 = r) (fun r9 z => by rw [z]) hr rfl)
/-! X12_isOther -/
theorem dX12_isOther_0 : decode cX12_isOther 0 = .ok (.aload_n 0, 1) := by decide +kernel
theorem dX12_isOther_1 : decode cX12_isOther 1 = .ok (.getfield 62, 3) := by decide +kernel
theorem dX12_isOther_4 : decode cX12_isOther 4 = .ok (.iconst 4, 1) := by decide +kernel
theorem dX12_isOther_5 : decode cX12_isOther 5 = .ok (.iload_n 1, 1) := by decide +kernel
theorem dX12_isOther_6 : decode cX12_isOther 6 = .ok (.imul, 1) := by decide +kernel
theorem dX12_isOther_7 : decode cX12_isOther 7 = .ok (.iload_n 2, 1) := by decide +kernel
theorem dX12_isOther_8 : decode cX12_isOther 8 = .ok (.iadd, 1) := by decide +kernel
theorem dX12_isOther_9 : decode cX12_isOther 9 = .ok (.iaload, 1) := by decide +kernel
theorem dX12_isOther_10 : decode cX12_isOther 10 = .ok (.bipush (-9), 2) := by decide +kernel
theorem dX12_isOther_12 : decode cX12_isOther 12 = .ok (.if_icmp .eq 26, 3) := by decide +kernel
theorem dX12_isOther_15 : decode cX12_isOther 15 = .ok (.aload_n 0, 1) := by decide +kernel
theorem dX12_isOther_16 : decode cX12_isOther 16 = .ok (.getfield 62, 3) := by decide +kernel
theorem dX12_isOther_19 : decode cX12_isOther 19 = .ok (.iconst 4, 1) := by decide +kernel
theorem dX12_isOther_20 : decode cX12_isOther 20 = .ok (.iload_n 1, 1) := by decide +kernel
theorem dX12_isOther_21 : decode cX12_isOther 21 = .ok (.imul, 1) := by decide +kernel
theorem dX12_isOther_22 : decode cX12_isOther 22 = .ok (.iload_n 2, 1) := by decide +kernel
theorem dX12_isOther_23 : decode cX12_isOther 23 = .ok (.iadd, 1) := by decide +kernel
theorem dX12_isOther_24 : decode cX12_isOther 24 = .ok (.iaload, 1) := by decide +kernel
theorem dX12_isOther_25 : decode cX12_isOther 25 = .ok (.aload_n 0, 1) := by decide +kernel
theorem dX12_isOther_26 : decode cX12_isOther 26 = .ok (.iload_n 1, 1) := by decide +kernel
theorem dX12_isOther_27 : decode cX12_isOther 27 = .ok (.iload_n 2, 1) := by decide +kernel
theorem dX12_isOther_28 : decode cX12_isOther 28 = .ok (.invokevirtual 320, 3) := by decide +kernel
theorem dX12_isOther_31 : decode cX12_isOther 31 = .ok (.if_icmp .eq 7, 3) := by decide +kernel
theorem dX12_isOther_34 : decode cX12_isOther 34 = .ok (.iconst 1, 1) := by decide +kernel
theorem dX12_isOther_35 : decode cX12_isOther 35 = .ok (.goto 4, 3) := by decide +kernel
theorem dX12_isOther_38 : decode cX12_isOther 38 = .ok (.iconst 0, 1) := by decide +kernel
theorem dX12_isOther_39 : decode cX12_isOther 39 = .ok (.ireturn, 1) := by decide +kernel
abbrev M_X12_isOther : mM := (cX12_isOther, 3, RX12, some .boolean, false, 1, 22, 0, 0)
theorem gX12_isOther : cI yX12_isOther M_X12_isOther 2 := ⟨(wsl_44 _ (List.mem_of_getElem? (i := 13) rfl)), (wsl_44 _ (List.mem_of_getElem? (i := 14) rfl)), (wsl_1 _ (List.mem_of_getElem? (i := 5) rfl)), (wsl_44 _ (List.mem_of_getElem? (i := 15) rfl)), by decide +kernel⟩
noncomputable def fX12_isOther (h : hH) (a0 a1 a2 : Int) : Option (Int) :=
  (aget h (h a0 27) (w32 ((w32 (4 * a1)) + a2))).bind fun v9 =>
  if v9 = -9 then
    some 0
  else
    (aget h (h a0 27) (w32 ((w32 (4 * a1)) + a2))).bind fun v24 =>
    (fX12_cellOf h a0 a1 a2).bind fun r28 =>
    if v24 = r28 then
      some 0
    else
      some 1
section M_X12_isOther
variable {p : Program} {l : Launch} {e : Env} {R : Room} {s : State} {m : MethodId} {args : Array Value} {below : List Frame} {meth : Method} {c : Code} {D : va_G} {G : gG} {A : Nat → Prop} {H0 : Heap} {n0 : Int} {x : Option vV × hH} {h : hH}
set_option maxRecDepth 100000 in
set_option maxHeartbeats 4000000 in
theorem oX12_isOther_b0 {a0 a1 a2 : Int} {K : Int → Prop} (k0 : ∀ r, K (r) → x = (some (2, r), h)) {r : Int} (hr : fX12_isOther h a0 a1 a2 = some r) (hk : K r) : Wq p l e R s m args below meth c D G A H0 true n0 M_X12_isOther x 0 0 0 [(0, (22, a0)), (1, (0, a1)), (2, (0, a2))] [] h := by
  unfold fX12_isOther at hr
  refine r_aload_n dX12_isOther_0 rfl 0 rfl (nl rfl) ?_
  refine r_get 12 27 (o := a0) (w := (50, h a0 27)) (T := TX12) (ref := "FollowingRefsModel") rfl (by decide) rfl (by decide) inlX12 (wsl_7 _ (List.mem_of_getElem? (i := 17) rfl)) rfl dX12_isOther_1 rfl ?_
  refine r_iconst dX12_isOther_4 (by decide) ?_
  refine r_iload_n dX12_isOther_5 rfl 1 rfl (Or.inl rfl) ?_
  refine r_imul dX12_isOther_6 ?_
  refine r_iload_n dX12_isOther_7 rfl 2 rfl (Or.inl rfl) ?_
  refine r_iadd dX12_isOther_8 ?_
  obtain ⟨v9, hg9, hr⟩ := bnd hr
  refine r_iald dX12_isOther_9 hg9 ?_
  refine r_bipush dX12_isOther_10 (by decide) (by decide) ?_
  refine r_icmp_eq dX12_isOther_12 (tgt := 38) (by decide) (fun hc => ?_) (fun hc => ?_)
  · have hr := ifp hr hc
    refine r_iconst dX12_isOther_38 (by decide) ?_
    refine r_scast 0 (v := (0, 0)) (w := (2, 0)) rfl cz (fun _ => Or.inl rfl) (st' := [(2, 0)]) rfl ?_
    obtain rfl := Option.some.inj hr
    exact r_ret dX12_isOther_39 rfl (Or.inr ⟨rfl, rfl⟩) (k0 _ hk) ⟨rfl, rfl⟩
  · have hr := ifn hr hc
    refine r_aload_n dX12_isOther_15 rfl 0 rfl (nl rfl) ?_
    refine r_get 12 27 (o := a0) (w := (50, h a0 27)) (T := TX12) (ref := "FollowingRefsModel") rfl (by decide) rfl (by decide) inlX12 (wsl_7 _ (List.mem_of_getElem? (i := 17) rfl)) rfl dX12_isOther_16 rfl ?_
    refine r_iconst dX12_isOther_19 (by decide) ?_
    refine r_iload_n dX12_isOther_20 rfl 1 rfl (Or.inl rfl) ?_
    refine r_imul dX12_isOther_21 ?_
    refine r_iload_n dX12_isOther_22 rfl 2 rfl (Or.inl rfl) ?_
    refine r_iadd dX12_isOther_23 ?_
    obtain ⟨v24, hg24, hr⟩ := bnd hr
    refine r_iald dX12_isOther_24 hg24 ?_
    refine r_aload_n dX12_isOther_25 rfl 0 rfl (nl rfl) ?_
    refine r_iload_n dX12_isOther_26 rfl 1 rfl (Or.inl rfl) ?_
    refine r_iload_n dX12_isOther_27 rfl 2 rfl (Or.inl rfl) ?_
    obtain ⟨r28, hg28, hr⟩ := bnd hr
    refine k_V (ci := 12) (o := a0) (T := TX12) (as := [(0, a1), (0, a2)]) (rest := [(0, v24)]) (X := (some (0, r28), h)) (oX12_cellOf hg28) gX12_cellOf rfl (by decide) rfl (wsl_42 _ (List.mem_of_getElem? (i := 17) rfl)) rfl dX12_isOther_28 rfl ?_
    refine r_icmp_eq dX12_isOther_31 (tgt := 38) (by decide) (fun hc => ?_) (fun hc => ?_)
    · have hr := ifp hr hc
      refine r_iconst dX12_isOther_38 (by decide) ?_
      refine r_scast 0 (v := (0, 0)) (w := (2, 0)) rfl cz (fun _ => Or.inl rfl) (st' := [(2, 0)]) rfl ?_
      obtain rfl := Option.some.inj hr
      exact r_ret dX12_isOther_39 rfl (Or.inr ⟨rfl, rfl⟩) (k0 _ hk) ⟨rfl, rfl⟩
    · have hr := ifn hr hc
      refine r_iconst dX12_isOther_34 (by decide) ?_
      refine r_goto dX12_isOther_35 (tgt := 39) (by decide) ?_
      refine r_scast 0 (v := (0, 1)) (w := (2, 1)) rfl cz (fun _ => Or.inr rfl) (st' := [(2, 1)]) rfl ?_
      obtain rfl := Option.some.inj hr
      exact r_ret dX12_isOther_39 rfl (Or.inr ⟨rfl, rfl⟩) (k0 _ hk) ⟨rfl, rfl⟩
end M_X12_isOther
theorem oX12_isOther {l : Launch} {D : va_G} {G : gG} {h : hH} {a0 a1 a2 : Int} {r : Int} (hr : fX12_isOther h a0 a1 a2 = some r) : Ctr l D G true yX12_isOther M_X12_isOther [(22, a0), (0, a1), (0, a2)] h (some (2, r), h) :=
  Ctr_of (by decide) rfl (fun z => by cases z) (nl rfl) (fun {p e R s m args below meth c A H0} => by
    exact oX12_isOther_b0 (K := fun z9 => z9 = r) (fun r9 z => by rw [z]) hr rfl)
/-! X12_wantsAll -/
theorem dX12_wantsAll_0 : decode cX12_wantsAll 0 = .ok (.iconst 0, 1) := by decide +kernel
theorem dX12_wantsAll_1 : decode cX12_wantsAll 1 = .ok (.istore 4, 2) := by decide +kernel
theorem dX12_wantsAll_3 : decode cX12_wantsAll 3 = .ok (.iload 4, 2) := by decide +kernel
theorem dX12_wantsAll_5 : decode cX12_wantsAll 5 = .ok (.iconst 2, 1) := by decide +kernel
theorem dX12_wantsAll_6 : decode cX12_wantsAll 6 = .ok (.if_icmp .ge 60, 3) := by decide +kernel
theorem dX12_wantsAll_9 : decode cX12_wantsAll 9 = .ok (.aload_n 0, 1) := by decide +kernel
theorem dX12_wantsAll_10 : decode cX12_wantsAll 10 = .ok (.iload_n 2, 1) := by decide +kernel
theorem dX12_wantsAll_11 : decode cX12_wantsAll 11 = .ok (.iload 4, 2) := by decide +kernel
theorem dX12_wantsAll_13 : decode cX12_wantsAll 13 = .ok (.invokevirtual 383, 3) := by decide +kernel
theorem dX12_wantsAll_16 : decode cX12_wantsAll 16 = .ok (.istore 5, 2) := by decide +kernel
theorem dX12_wantsAll_18 : decode cX12_wantsAll 18 = .ok (.iload 5, 2) := by decide +kernel
theorem dX12_wantsAll_20 : decode cX12_wantsAll 20 = .ok (.ifCond .lt 40, 3) := by decide +kernel
theorem dX12_wantsAll_23 : decode cX12_wantsAll 23 = .ok (.aload_n 0, 1) := by decide +kernel
theorem dX12_wantsAll_24 : decode cX12_wantsAll 24 = .ok (.iload_n 1, 1) := by decide +kernel
theorem dX12_wantsAll_25 : decode cX12_wantsAll 25 = .ok (.iload 5, 2) := by decide +kernel
theorem dX12_wantsAll_27 : decode cX12_wantsAll 27 = .ok (.iload_n 3, 1) := by decide +kernel
theorem dX12_wantsAll_28 : decode cX12_wantsAll 28 = .ok (.ifCond .eq 28, 3) := by decide +kernel
theorem dX12_wantsAll_31 : decode cX12_wantsAll 31 = .ok (.aload_n 0, 1) := by decide +kernel
theorem dX12_wantsAll_32 : decode cX12_wantsAll 32 = .ok (.getfield 33, 3) := by decide +kernel
theorem dX12_wantsAll_35 : decode cX12_wantsAll 35 = .ok (.bipush 8, 2) := by decide +kernel
theorem dX12_wantsAll_37 : decode cX12_wantsAll 37 = .ok (.iconst 4, 1) := by decide +kernel
theorem dX12_wantsAll_38 : decode cX12_wantsAll 38 = .ok (.aload_n 0, 1) := by decide +kernel
theorem dX12_wantsAll_39 : decode cX12_wantsAll 39 = .ok (.getfield 33, 3) := by decide +kernel
theorem dX12_wantsAll_42 : decode cX12_wantsAll 42 = .ok (.bipush 58, 2) := by decide +kernel
theorem dX12_wantsAll_44 : decode cX12_wantsAll 44 = .ok (.iload_n 2, 1) := by decide +kernel
theorem dX12_wantsAll_45 : decode cX12_wantsAll 45 = .ok (.iadd, 1) := by decide +kernel
theorem dX12_wantsAll_46 : decode cX12_wantsAll 46 = .ok (.iaload, 1) := by decide +kernel
theorem dX12_wantsAll_47 : decode cX12_wantsAll 47 = .ok (.imul, 1) := by decide +kernel
theorem dX12_wantsAll_48 : decode cX12_wantsAll 48 = .ok (.iadd, 1) := by decide +kernel
theorem dX12_wantsAll_49 : decode cX12_wantsAll 49 = .ok (.iload 5, 2) := by decide +kernel
theorem dX12_wantsAll_51 : decode cX12_wantsAll 51 = .ok (.iadd, 1) := by decide +kernel
theorem dX12_wantsAll_52 : decode cX12_wantsAll 52 = .ok (.iaload, 1) := by decide +kernel
theorem dX12_wantsAll_53 : decode cX12_wantsAll 53 = .ok (.goto 4, 3) := by decide +kernel
theorem dX12_wantsAll_56 : decode cX12_wantsAll 56 = .ok (.iconst (-1), 1) := by decide +kernel
theorem dX12_wantsAll_57 : decode cX12_wantsAll 57 = .ok (.invokevirtual 386, 3) := by decide +kernel
theorem dX12_wantsAll_60 : decode cX12_wantsAll 60 = .ok (.iinc 4 1, 3) := by decide +kernel
theorem dX12_wantsAll_63 : decode cX12_wantsAll 63 = .ok (.goto (-60), 3) := by decide +kernel
theorem dX12_wantsAll_66 : decode cX12_wantsAll 66 = .ok (.return_, 1) := by decide +kernel
abbrev M_X12_wantsAll : mM := (cX12_wantsAll, 6, RX12, none, false, 1, 24, 0, 0)
theorem gX12_wantsAll : cI yX12_wantsAll M_X12_wantsAll 3 := ⟨(wsl_44 _ (List.mem_of_getElem? (i := 17) rfl)), (wsl_44 _ (List.mem_of_getElem? (i := 18) rfl)), (wsl_1 _ (List.mem_of_getElem? (i := 5) rfl)), (wsl_44 _ (List.mem_of_getElem? (i := 19) rfl)), by decide +kernel⟩
noncomputable def fX12_wantsAll_b57 (h : hH) (a0 a1 a2 a3 l4 s0 s1 s2 s3 : Int) : Option ((hH × Int) ⊕ (hH)) :=
  (fX12_wants h s3 s2 s1 s0).bind fun h57 =>
  some (.inl (h57, w32 (l4 + 1)))
noncomputable def fX12_wantsAll_s3 (h0 : hH) (a0 a1 a2 a3 : Int) : hH × Int → Option ((hH × Int) ⊕ (hH)) := fun (h, l4) =>
  if l4 < 2 then
    (fX12_refCol h a0 a2 l4).bind fun r13 =>
    if r13 < 0 then
      some (.inl (h, w32 (l4 + 1)))
    else
      if a3 = 0 then
        fX12_wantsAll_b57 h a0 a1 a2 a3 l4 (-1) r13 a1 a0
      else
        (aget h (h a0 6) (w32 (58 + a2))).bind fun v46 =>
        (aget h (h a0 6) (w32 ((w32 (8 + (w32 (4 * v46)))) + r13))).bind fun v52 =>
        fX12_wantsAll_b57 h a0 a1 a2 a3 l4 v52 r13 a1 a0
  else
    some (.inr (h))
noncomputable def fX12_wantsAll (h : hH) (a0 a1 a2 a3 : Int) : Option (hH) :=
  lpO (fX12_wantsAll_s3 h a0 a1 a2 a3) (h, 0)
section M_X12_wantsAll
variable {p : Program} {l : Launch} {e : Env} {R : Room} {s : State} {m : MethodId} {args : Array Value} {below : List Frame} {meth : Method} {c : Code} {D : va_G} {G : gG} {A : Nat → Prop} {H0 : Heap} {n0 : Int} {x : Option vV × hH} {h : hH}
set_option maxRecDepth 100000 in
set_option maxHeartbeats 4000000 in
theorem oX12_wantsAll_b57 {a0 a1 a2 a3 l4 s0 s1 s2 s3 : Int} {K : (hH × Int) ⊕ (hH) → Prop} (k0 : ∀ r, K (.inr (r)) → x = (none, r)) (k1 : ∀ (h : hH) (l4 : Int), K (.inl (h, l4)) → Wq p l e R s m args below meth c D G A H0 true n0 M_X12_wantsAll x 0 0 3 [(0, (22, a0)), (1, (0, a1)), (2, (0, a2)), (3, (2, a3)), (4, (0, l4))] [] h) {r : (hH × Int) ⊕ (hH)} (hr : fX12_wantsAll_b57 h a0 a1 a2 a3 l4 s0 s1 s2 s3 = some r) (hk : K r) : Wq p l e R s m args below meth c D G A H0 true n0 M_X12_wantsAll x 0 0 57 [(0, (22, a0)), (1, (0, a1)), (2, (0, a2)), (3, (2, a3)), (4, (0, l4))] [(0, s0), (0, s1), (0, s2), (22, s3)] h := by
  unfold fX12_wantsAll_b57 at hr
  obtain ⟨h57, hg57, hr⟩ := bnd hr
  refine k_V (ci := 12) (o := s3) (T := TX12) (as := [(0, s2), (0, s1), (0, s0)]) (rest := []) (X := (none, h57)) (oX12_wants hg57) gX12_wants rfl (by decide) rfl (wsl_43 _ (List.mem_of_getElem? (i := 16) rfl)) rfl dX12_wantsAll_57 rfl ?_
  refine r_iinc (k := 4) (v := l4) dX12_wantsAll_60 rfl (by decide) (lv' := [(4, (0, w32 (l4 + 1))), (0, (22, a0)), (1, (0, a1)), (2, (0, a2)), (3, (2, a3))]) rfl ?_
  refine r_goto dX12_wantsAll_63 (tgt := 3) (by decide) ?_
  refine r_sub [1, 2, 3, 4, 0] (lv' := [(0, (22, a0)), (1, (0, a1)), (2, (0, a2)), (3, (2, a3)), (4, (0, w32 (l4 + 1)))]) rfl ?_
  obtain rfl := Option.some.inj hr
  exact k1 _ _ hk
set_option maxRecDepth 100000 in
set_option maxHeartbeats 4000000 in
theorem oX12_wantsAll_s3 {h0 : hH} {a0 a1 a2 a3 l4 : Int} {K : (hH × Int) ⊕ (hH) → Prop} (k0 : ∀ r, K (.inr (r)) → x = (none, r)) (k1 : ∀ (h : hH) (l4 : Int), K (.inl (h, l4)) → Wq p l e R s m args below meth c D G A H0 true n0 M_X12_wantsAll x 0 0 3 [(0, (22, a0)), (1, (0, a1)), (2, (0, a2)), (3, (2, a3)), (4, (0, l4))] [] h) {r : (hH × Int) ⊕ (hH)} (hr : fX12_wantsAll_s3 h0 a0 a1 a2 a3 (h, l4) = some r) (hk : K r) : Wq p l e R s m args below meth c D G A H0 true n0 M_X12_wantsAll x 0 0 3 [(0, (22, a0)), (1, (0, a1)), (2, (0, a2)), (3, (2, a3)), (4, (0, l4))] [] h := by
  unfold fX12_wantsAll_s3 at hr
  refine r_iload dX12_wantsAll_3 4 rfl (Or.inl rfl) ?_
  refine r_iconst dX12_wantsAll_5 (by decide) ?_
  refine r_icmp_ge dX12_wantsAll_6 (tgt := 66) (by decide) (fun hc => ?_) (fun hc => ?_)
  · have hr := ifn hr hc
    obtain rfl := Option.some.inj hr
    exact r_vret dX12_wantsAll_66 rfl (k0 _ hk) ⟨rfl, rfl⟩
  · have hr := ifp hr hc
    refine r_aload_n dX12_wantsAll_9 rfl 0 rfl (nl rfl) ?_
    refine r_iload_n dX12_wantsAll_10 rfl 2 rfl (Or.inl rfl) ?_
    refine r_iload dX12_wantsAll_11 4 rfl (Or.inl rfl) ?_
    obtain ⟨r13, hg13, hr⟩ := bnd hr
    refine k_V (ci := 12) (o := a0) (T := TX12) (as := [(0, a2), (0, l4)]) (rest := []) (X := (some (0, r13), h)) (oX12_refCol hg13) gX12_refCol rfl (by decide) rfl (wsl_44 _ (List.mem_of_getElem? (i := 20) rfl)) rfl dX12_wantsAll_13 rfl ?_
    refine r_istore dX12_wantsAll_16 (Or.inl rfl) (by decide) (lv' := [(5, (0, r13)), (0, (22, a0)), (1, (0, a1)), (2, (0, a2)), (3, (2, a3)), (4, (0, l4))]) rfl ?_
    refine r_iload dX12_wantsAll_18 0 rfl (Or.inl rfl) ?_
    refine r_if_lt dX12_wantsAll_20 (tgt := 60) (by decide) (fun hc => ?_) (fun hc => ?_)
    · have hr := ifp hr hc
      refine r_iinc (k := 5) (v := l4) dX12_wantsAll_60 rfl (by decide) (lv' := [(4, (0, w32 (l4 + 1))), (5, (0, r13)), (0, (22, a0)), (1, (0, a1)), (2, (0, a2)), (3, (2, a3))]) rfl ?_
      refine r_goto dX12_wantsAll_63 (tgt := 3) (by decide) ?_
      refine r_sub [2, 3, 4, 5, 0] (lv' := [(0, (22, a0)), (1, (0, a1)), (2, (0, a2)), (3, (2, a3)), (4, (0, w32 (l4 + 1)))]) rfl ?_
      obtain rfl := Option.some.inj hr
      exact k1 _ _ hk
    · have hr := ifn hr hc
      refine r_aload_n dX12_wantsAll_23 rfl 1 rfl (nl rfl) ?_
      refine r_iload_n dX12_wantsAll_24 rfl 2 rfl (Or.inl rfl) ?_
      refine r_iload dX12_wantsAll_25 0 rfl (Or.inl rfl) ?_
      refine r_iload_n dX12_wantsAll_27 rfl 4 rfl (Or.inr rfl) ?_
      refine r_scast 0 (v := (2, a3)) (w := (0, a3)) rfl zc hTz (st' := [(0, a3), (0, r13), (0, a1), (22, a0)]) rfl ?_
      refine r_if_eq dX12_wantsAll_28 (tgt := 56) (by decide) (fun hc => ?_) (fun hc => ?_)
      · have hr := ifp hr hc
        refine r_iconst dX12_wantsAll_56 (by decide) ?_
        refine r_sub [1, 2, 3, 4, 5] (lv' := [(0, (22, a0)), (1, (0, a1)), (2, (0, a2)), (3, (2, a3)), (4, (0, l4))]) rfl ?_
        exact oX12_wantsAll_b57 (K := K) (fun r z => k0 r z) (fun _ _ z => k1 _ _ z) hr hk
      · have hr := ifn hr hc
        refine r_aload_n dX12_wantsAll_31 rfl 1 rfl (nl rfl) ?_
        refine r_get 12 6 (o := a0) (w := (50, h a0 6)) (T := TX12) (ref := "FollowingRefsModel") rfl (by decide) rfl (by decide) inlX12 (wsl_7 _ (List.mem_of_getElem? (i := 8) rfl)) rfl dX12_wantsAll_32 rfl ?_
        refine r_bipush dX12_wantsAll_35 (by decide) (by decide) ?_
        refine r_iconst dX12_wantsAll_37 (by decide) ?_
        refine r_aload_n dX12_wantsAll_38 rfl 1 rfl (nl rfl) ?_
        refine r_get 12 6 (o := a0) (w := (50, h a0 6)) (T := TX12) (ref := "FollowingRefsModel") rfl (by decide) rfl (by decide) inlX12 (wsl_7 _ (List.mem_of_getElem? (i := 8) rfl)) rfl dX12_wantsAll_39 rfl ?_
        refine r_bipush dX12_wantsAll_42 (by decide) (by decide) ?_
        refine r_iload_n dX12_wantsAll_44 rfl 3 rfl (Or.inl rfl) ?_
        refine r_iadd dX12_wantsAll_45 ?_
        obtain ⟨v46, hg46, hr⟩ := bnd hr
        refine r_iald dX12_wantsAll_46 hg46 ?_
        refine r_imul dX12_wantsAll_47 ?_
        refine r_iadd dX12_wantsAll_48 ?_
        refine r_iload dX12_wantsAll_49 0 rfl (Or.inl rfl) ?_
        refine r_iadd dX12_wantsAll_51 ?_
        obtain ⟨v52, hg52, hr⟩ := bnd hr
        refine r_iald dX12_wantsAll_52 hg52 ?_
        refine r_goto dX12_wantsAll_53 (tgt := 57) (by decide) ?_
        refine r_sub [1, 2, 3, 4, 5] (lv' := [(0, (22, a0)), (1, (0, a1)), (2, (0, a2)), (3, (2, a3)), (4, (0, l4))]) rfl ?_
        exact oX12_wantsAll_b57 (K := K) (fun r z => k0 r z) (fun _ _ z => k1 _ _ z) hr hk
set_option maxRecDepth 100000 in
set_option maxHeartbeats 4000000 in
theorem oX12_wantsAll_b0 {a0 a1 a2 a3 : Int} {K : hH → Prop} (k0 : ∀ r, K (r) → x = (none, r)) {r : hH} (hr : fX12_wantsAll h a0 a1 a2 a3 = some r) (hk : K r) : Wq p l e R s m args below meth c D G A H0 true n0 M_X12_wantsAll x 0 0 0 [(0, (22, a0)), (1, (0, a1)), (2, (0, a2)), (3, (2, a3))] [] h := by
  unfold fX12_wantsAll at hr
  refine r_iconst dX12_wantsAll_0 (by decide) ?_
  refine r_istore dX12_wantsAll_1 (Or.inl rfl) (by decide) (lv' := [(4, (0, 0)), (0, (22, a0)), (1, (0, a1)), (2, (0, a2)), (3, (2, a3))]) rfl ?_
  refine r_sub [1, 2, 3, 4, 0] (lv' := [(0, (22, a0)), (1, (0, a1)), (2, (0, a2)), (3, (2, a3)), (4, (0, 0))]) rfl ?_
  exact lp_ok (w := fun (q : hH × Int) => Wq p l e R s m args below meth c D G A H0 true n0 M_X12_wantsAll x 0 0 3 [(0, (22, a0)), (1, (0, a1)), (2, (0, a2)), (3, (2, a3)), (4, (0, q.2))] [] (q.1)) (K := K) (fun ⟨q0, q1⟩ r h1 h2 => oX12_wantsAll_s3 (K := Sum.elim (fun (q : hH × Int) => Wq p l e R s m args below meth c D G A H0 true n0 M_X12_wantsAll x 0 0 3 [(0, (22, a0)), (1, (0, a1)), (2, (0, a2)), (3, (2, a3)), (4, (0, q.2))] [] (q.1)) (K)) (fun r z => k0 r z) (fun _ _ z => z) h1 h2) hr hk
end M_X12_wantsAll
theorem oX12_wantsAll {l : Launch} {D : va_G} {G : gG} {h : hH} {a0 a1 a2 a3 : Int} {r : hH} (hr : fX12_wantsAll h a0 a1 a2 a3 = some r) : Ctr l D G true yX12_wantsAll M_X12_wantsAll [(22, a0), (0, a1), (0, a2), (2, a3)] h (none, r) :=
  Ctr_of (by decide) rfl (fun z => by cases z) (nl rfl) (fun {p e R s m args below meth c A H0} => by
    exact oX12_wantsAll_b0 (K := fun z9 => z9 = r) (fun r9 z => by rw [z]) hr rfl)
/-! X12_followsKey -/
theorem dX12_followsKey_0 : decode cX12_followsKey 0 = .ok (.aload_n 0, 1) := by decide +kernel
theorem dX12_followsKey_1 : decode cX12_followsKey 1 = .ok (.getfield 33, 3) := by decide +kernel
theorem dX12_followsKey_4 : decode cX12_followsKey 4 = .ok (.bipush 82, 2) := by decide +kernel
theorem dX12_followsKey_6 : decode cX12_followsKey 6 = .ok (.iload_n 2, 1) := by decide +kernel
theorem dX12_followsKey_7 : decode cX12_followsKey 7 = .ok (.iadd, 1) := by decide +kernel
theorem dX12_followsKey_8 : decode cX12_followsKey 8 = .ok (.iaload, 1) := by decide +kernel
theorem dX12_followsKey_9 : decode cX12_followsKey 9 = .ok (.istore 4, 2) := by decide +kernel
theorem dX12_followsKey_11 : decode cX12_followsKey 11 = .ok (.aload_n 0, 1) := by decide +kernel
theorem dX12_followsKey_12 : decode cX12_followsKey 12 = .ok (.iload_n 3, 1) := by decide +kernel
theorem dX12_followsKey_13 : decode cX12_followsKey 13 = .ok (.aload_n 0, 1) := by decide +kernel
theorem dX12_followsKey_14 : decode cX12_followsKey 14 = .ok (.iload 4, 2) := by decide +kernel
theorem dX12_followsKey_16 : decode cX12_followsKey 16 = .ok (.iconst 0, 1) := by decide +kernel
theorem dX12_followsKey_17 : decode cX12_followsKey 17 = .ok (.invokevirtual 389, 3) := by decide +kernel
theorem dX12_followsKey_20 : decode cX12_followsKey 20 = .ok (.invokevirtual 392, 3) := by decide +kernel
theorem dX12_followsKey_23 : decode cX12_followsKey 23 = .ok (.istore 5, 2) := by decide +kernel
theorem dX12_followsKey_25 : decode cX12_followsKey 25 = .ok (.aload_n 0, 1) := by decide +kernel
theorem dX12_followsKey_26 : decode cX12_followsKey 26 = .ok (.iload 4, 2) := by decide +kernel
theorem dX12_followsKey_28 : decode cX12_followsKey 28 = .ok (.iconst 1, 1) := by decide +kernel
theorem dX12_followsKey_29 : decode cX12_followsKey 29 = .ok (.invokevirtual 389, 3) := by decide +kernel
theorem dX12_followsKey_32 : decode cX12_followsKey 32 = .ok (.ifCond .lt 22, 3) := by decide +kernel
theorem dX12_followsKey_35 : decode cX12_followsKey 35 = .ok (.aload_n 0, 1) := by decide +kernel
theorem dX12_followsKey_36 : decode cX12_followsKey 36 = .ok (.iload_n 3, 1) := by decide +kernel
theorem dX12_followsKey_37 : decode cX12_followsKey 37 = .ok (.aload_n 0, 1) := by decide +kernel
theorem dX12_followsKey_38 : decode cX12_followsKey 38 = .ok (.iload 4, 2) := by decide +kernel
theorem dX12_followsKey_40 : decode cX12_followsKey 40 = .ok (.iconst 1, 1) := by decide +kernel
theorem dX12_followsKey_41 : decode cX12_followsKey 41 = .ok (.invokevirtual 389, 3) := by decide +kernel
theorem dX12_followsKey_44 : decode cX12_followsKey 44 = .ok (.invokevirtual 392, 3) := by decide +kernel
theorem dX12_followsKey_47 : decode cX12_followsKey 47 = .ok (.ifCond .eq 7, 3) := by decide +kernel
theorem dX12_followsKey_50 : decode cX12_followsKey 50 = .ok (.iconst 1, 1) := by decide +kernel
theorem dX12_followsKey_51 : decode cX12_followsKey 51 = .ok (.goto 4, 3) := by decide +kernel
theorem dX12_followsKey_54 : decode cX12_followsKey 54 = .ok (.iconst 0, 1) := by decide +kernel
theorem dX12_followsKey_55 : decode cX12_followsKey 55 = .ok (.istore 6, 2) := by decide +kernel
theorem dX12_followsKey_57 : decode cX12_followsKey 57 = .ok (.iload 5, 2) := by decide +kernel
theorem dX12_followsKey_59 : decode cX12_followsKey 59 = .ok (.ifCond .ne 9, 3) := by decide +kernel
theorem dX12_followsKey_62 : decode cX12_followsKey 62 = .ok (.iload 6, 2) := by decide +kernel
theorem dX12_followsKey_64 : decode cX12_followsKey 64 = .ok (.ifCond .ne 4, 3) := by decide +kernel
theorem dX12_followsKey_67 : decode cX12_followsKey 67 = .ok (.return_, 1) := by decide +kernel
theorem dX12_followsKey_68 : decode cX12_followsKey 68 = .ok (.aload_n 0, 1) := by decide +kernel
theorem dX12_followsKey_69 : decode cX12_followsKey 69 = .ok (.getfield 33, 3) := by decide +kernel
theorem dX12_followsKey_72 : decode cX12_followsKey 72 = .ok (.bipush 94, 2) := by decide +kernel
theorem dX12_followsKey_74 : decode cX12_followsKey 74 = .ok (.iload_n 2, 1) := by decide +kernel
theorem dX12_followsKey_75 : decode cX12_followsKey 75 = .ok (.iadd, 1) := by decide +kernel
theorem dX12_followsKey_76 : decode cX12_followsKey 76 = .ok (.iaload, 1) := by decide +kernel
theorem dX12_followsKey_77 : decode cX12_followsKey 77 = .ok (.iconst 1, 1) := by decide +kernel
theorem dX12_followsKey_78 : decode cX12_followsKey 78 = .ok (.if_icmp .le 27, 3) := by decide +kernel
theorem dX12_followsKey_81 : decode cX12_followsKey 81 = .ok (.aload_n 0, 1) := by decide +kernel
theorem dX12_followsKey_82 : decode cX12_followsKey 82 = .ok (.iload_n 1, 1) := by decide +kernel
theorem dX12_followsKey_83 : decode cX12_followsKey 83 = .ok (.iload_n 2, 1) := by decide +kernel
theorem dX12_followsKey_84 : decode cX12_followsKey 84 = .ok (.aload_n 0, 1) := by decide +kernel
theorem dX12_followsKey_85 : decode cX12_followsKey 85 = .ok (.getfield 33, 3) := by decide +kernel
theorem dX12_followsKey_88 : decode cX12_followsKey 88 = .ok (.bipush 94, 2) := by decide +kernel
theorem dX12_followsKey_90 : decode cX12_followsKey 90 = .ok (.iload_n 2, 1) := by decide +kernel
theorem dX12_followsKey_91 : decode cX12_followsKey 91 = .ok (.iadd, 1) := by decide +kernel
theorem dX12_followsKey_92 : decode cX12_followsKey 92 = .ok (.iaload, 1) := by decide +kernel
theorem dX12_followsKey_93 : decode cX12_followsKey 93 = .ok (.iconst 3, 1) := by decide +kernel
theorem dX12_followsKey_94 : decode cX12_followsKey 94 = .ok (.if_icmp .ne 7, 3) := by decide +kernel
theorem dX12_followsKey_97 : decode cX12_followsKey 97 = .ok (.iconst 1, 1) := by decide +kernel
theorem dX12_followsKey_98 : decode cX12_followsKey 98 = .ok (.goto 4, 3) := by decide +kernel
theorem dX12_followsKey_101 : decode cX12_followsKey 101 = .ok (.iconst 0, 1) := by decide +kernel
theorem dX12_followsKey_102 : decode cX12_followsKey 102 = .ok (.invokevirtual 395, 3) := by decide +kernel
theorem dX12_followsKey_105 : decode cX12_followsKey 105 = .ok (.aload_n 0, 1) := by decide +kernel
theorem dX12_followsKey_106 : decode cX12_followsKey 106 = .ok (.getfield 33, 3) := by decide +kernel
theorem dX12_followsKey_109 : decode cX12_followsKey 109 = .ok (.bipush 94, 2) := by decide +kernel
theorem dX12_followsKey_111 : decode cX12_followsKey 111 = .ok (.iload_n 2, 1) := by decide +kernel
theorem dX12_followsKey_112 : decode cX12_followsKey 112 = .ok (.iadd, 1) := by decide +kernel
theorem dX12_followsKey_113 : decode cX12_followsKey 113 = .ok (.iaload, 1) := by decide +kernel
theorem dX12_followsKey_114 : decode cX12_followsKey 114 = .ok (.iconst 1, 1) := by decide +kernel
theorem dX12_followsKey_115 : decode cX12_followsKey 115 = .ok (.if_icmp .eq 4, 3) := by decide +kernel
theorem dX12_followsKey_118 : decode cX12_followsKey 118 = .ok (.return_, 1) := by decide +kernel
theorem dX12_followsKey_119 : decode cX12_followsKey 119 = .ok (.iload 5, 2) := by decide +kernel
theorem dX12_followsKey_121 : decode cX12_followsKey 121 = .ok (.ifCond .eq 30, 3) := by decide +kernel
theorem dX12_followsKey_124 : decode cX12_followsKey 124 = .ok (.aload_n 0, 1) := by decide +kernel
theorem dX12_followsKey_125 : decode cX12_followsKey 125 = .ok (.iload_n 1, 1) := by decide +kernel
theorem dX12_followsKey_126 : decode cX12_followsKey 126 = .ok (.aload_n 0, 1) := by decide +kernel
theorem dX12_followsKey_127 : decode cX12_followsKey 127 = .ok (.iload_n 2, 1) := by decide +kernel
theorem dX12_followsKey_128 : decode cX12_followsKey 128 = .ok (.iconst 0, 1) := by decide +kernel
theorem dX12_followsKey_129 : decode cX12_followsKey 129 = .ok (.invokevirtual 383, 3) := by decide +kernel
theorem dX12_followsKey_132 : decode cX12_followsKey 132 = .ok (.aload_n 0, 1) := by decide +kernel
theorem dX12_followsKey_133 : decode cX12_followsKey 133 = .ok (.getfield 62, 3) := by decide +kernel
theorem dX12_followsKey_136 : decode cX12_followsKey 136 = .ok (.iconst 4, 1) := by decide +kernel
theorem dX12_followsKey_137 : decode cX12_followsKey 137 = .ok (.iload_n 3, 1) := by decide +kernel
theorem dX12_followsKey_138 : decode cX12_followsKey 138 = .ok (.imul, 1) := by decide +kernel
theorem dX12_followsKey_139 : decode cX12_followsKey 139 = .ok (.aload_n 0, 1) := by decide +kernel
theorem dX12_followsKey_140 : decode cX12_followsKey 140 = .ok (.iload 4, 2) := by decide +kernel
theorem dX12_followsKey_142 : decode cX12_followsKey 142 = .ok (.iconst 0, 1) := by decide +kernel
theorem dX12_followsKey_143 : decode cX12_followsKey 143 = .ok (.invokevirtual 389, 3) := by decide +kernel
theorem dX12_followsKey_146 : decode cX12_followsKey 146 = .ok (.iadd, 1) := by decide +kernel
theorem dX12_followsKey_147 : decode cX12_followsKey 147 = .ok (.iaload, 1) := by decide +kernel
theorem dX12_followsKey_148 : decode cX12_followsKey 148 = .ok (.invokevirtual 386, 3) := by decide +kernel
theorem dX12_followsKey_151 : decode cX12_followsKey 151 = .ok (.iload 6, 2) := by decide +kernel
theorem dX12_followsKey_153 : decode cX12_followsKey 153 = .ok (.ifCond .eq 30, 3) := by decide +kernel
theorem dX12_followsKey_156 : decode cX12_followsKey 156 = .ok (.aload_n 0, 1) := by decide +kernel
theorem dX12_followsKey_157 : decode cX12_followsKey 157 = .ok (.iload_n 1, 1) := by decide +kernel
theorem dX12_followsKey_158 : decode cX12_followsKey 158 = .ok (.aload_n 0, 1) := by decide +kernel
theorem dX12_followsKey_159 : decode cX12_followsKey 159 = .ok (.iload_n 2, 1) := by decide +kernel
theorem dX12_followsKey_160 : decode cX12_followsKey 160 = .ok (.iconst 1, 1) := by decide +kernel
theorem dX12_followsKey_161 : decode cX12_followsKey 161 = .ok (.invokevirtual 383, 3) := by decide +kernel
theorem dX12_followsKey_164 : decode cX12_followsKey 164 = .ok (.aload_n 0, 1) := by decide +kernel
theorem dX12_followsKey_165 : decode cX12_followsKey 165 = .ok (.getfield 62, 3) := by decide +kernel
theorem dX12_followsKey_168 : decode cX12_followsKey 168 = .ok (.iconst 4, 1) := by decide +kernel
theorem dX12_followsKey_169 : decode cX12_followsKey 169 = .ok (.iload_n 3, 1) := by decide +kernel
theorem dX12_followsKey_170 : decode cX12_followsKey 170 = .ok (.imul, 1) := by decide +kernel
theorem dX12_followsKey_171 : decode cX12_followsKey 171 = .ok (.aload_n 0, 1) := by decide +kernel
theorem dX12_followsKey_172 : decode cX12_followsKey 172 = .ok (.iload 4, 2) := by decide +kernel
theorem dX12_followsKey_174 : decode cX12_followsKey 174 = .ok (.iconst 1, 1) := by decide +kernel
theorem dX12_followsKey_175 : decode cX12_followsKey 175 = .ok (.invokevirtual 389, 3) := by decide +kernel
theorem dX12_followsKey_178 : decode cX12_followsKey 178 = .ok (.iadd, 1) := by decide +kernel
theorem dX12_followsKey_179 : decode cX12_followsKey 179 = .ok (.iaload, 1) := by decide +kernel
theorem dX12_followsKey_180 : decode cX12_followsKey 180 = .ok (.invokevirtual 386, 3) := by decide +kernel
theorem dX12_followsKey_183 : decode cX12_followsKey 183 = .ok (.return_, 1) := by decide +kernel
abbrev M_X12_followsKey : mM := (cX12_followsKey, 7, RX12, none, false, 2, 49, 0, 0)
theorem gX12_followsKey : cI yX12_followsKey M_X12_followsKey 3 := ⟨(wsl_44 _ (List.mem_of_getElem? (i := 5) rfl)), (wsl_44 _ (List.mem_of_getElem? (i := 6) rfl)), (wsl_1 _ (List.mem_of_getElem? (i := 5) rfl)), (wsl_44 _ (List.mem_of_getElem? (i := 7) rfl)), by decide +kernel⟩
noncomputable def fX12_followsKey_b151 (h : hH) (a0 a1 a2 a3 l4 l6 : Int) : Option (hH) :=
  if l6 = 0 then
    some h
  else
    (fX12_refCol h a0 a2 1).bind fun r161 =>
    (fX12_keyCol h a0 l4 1).bind fun r175 =>
    (aget h (h a0 27) (w32 ((w32 (4 * a3)) + r175))).bind fun v179 =>
    (fX12_wants h a0 a1 r161 v179).bind fun h180 =>
    some h180
noncomputable def fX12_followsKey_b105 (h : hH) (a0 a1 a2 a3 l4 l5 l6 : Int) : Option (hH) :=
  (aget h (h a0 6) (w32 (94 + a2))).bind fun v113 =>
  if v113 = 1 then
    if l5 = 0 then
      fX12_followsKey_b151 h a0 a1 a2 a3 l4 l6
    else
      (fX12_refCol h a0 a2 0).bind fun r129 =>
      (fX12_keyCol h a0 l4 0).bind fun r143 =>
      (aget h (h a0 27) (w32 ((w32 (4 * a3)) + r143))).bind fun v147 =>
      (fX12_wants h a0 a1 r129 v147).bind fun h148 =>
      fX12_followsKey_b151 h148 a0 a1 a2 a3 l4 l6
  else
    some h
noncomputable def fX12_followsKey_b102 (h : hH) (a0 a1 a2 a3 l4 l5 l6 s0 s1 s2 s3 : Int) : Option (hH) :=
  (fX12_wantsAll h s3 s2 s1 s0).bind fun h102 =>
  fX12_followsKey_b105 h102 a0 a1 a2 a3 l4 l5 l6
noncomputable def fX12_followsKey_b68 (h : hH) (a0 a1 a2 a3 l4 l5 l6 : Int) : Option (hH) :=
  (aget h (h a0 6) (w32 (94 + a2))).bind fun v76 =>
  if 1 < v76 then
    (aget h (h a0 6) (w32 (94 + a2))).bind fun v92 =>
    if v92 = 3 then
      fX12_followsKey_b102 h a0 a1 a2 a3 l4 l5 l6 1 a2 a1 a0
    else
      fX12_followsKey_b102 h a0 a1 a2 a3 l4 l5 l6 0 a2 a1 a0
  else
    fX12_followsKey_b105 h a0 a1 a2 a3 l4 l5 l6
noncomputable def fX12_followsKey_b55 (h : hH) (a0 a1 a2 a3 l4 l5 s0 : Int) : Option (hH) :=
  if l5 = 0 then
    if s0 = 0 then
      some h
    else
      fX12_followsKey_b68 h a0 a1 a2 a3 l4 l5 s0
  else
    fX12_followsKey_b68 h a0 a1 a2 a3 l4 l5 s0
noncomputable def fX12_followsKey_b54 (h : hH) (a0 a1 a2 a3 l4 l5 : Int) : Option (hH) :=
  fX12_followsKey_b55 h a0 a1 a2 a3 l4 l5 0
noncomputable def fX12_followsKey (h : hH) (a0 a1 a2 a3 : Int) : Option (hH) :=
  (aget h (h a0 6) (w32 (82 + a2))).bind fun v8 =>
  (fX12_keyCol h a0 v8 0).bind fun r17 =>
  (fX12_isOther h a0 a3 r17).bind fun r20 =>
  (fX12_keyCol h a0 v8 1).bind fun r29 =>
  if r29 < 0 then
    fX12_followsKey_b54 h a0 a1 a2 a3 v8 r20
  else
    (fX12_keyCol h a0 v8 1).bind fun r41 =>
    (fX12_isOther h a0 a3 r41).bind fun r44 =>
    if r44 = 0 then
      fX12_followsKey_b54 h a0 a1 a2 a3 v8 r20
    else
      fX12_followsKey_b55 h a0 a1 a2 a3 v8 r20 1
section M_X12_followsKey
variable {p : Program} {l : Launch} {e : Env} {R : Room} {s : State} {m : MethodId} {args : Array Value} {below : List Frame} {meth : Method} {c : Code} {D : va_G} {G : gG} {A : Nat → Prop} {H0 : Heap} {n0 : Int} {x : Option vV × hH} {h : hH}
set_option maxRecDepth 100000 in
set_option maxHeartbeats 4000000 in
theorem oX12_followsKey_b151 {a0 a1 a2 a3 l4 l6 : Int} {K : hH → Prop} (k0 : ∀ r, K (r) → x = (none, r)) {r : hH} (hr : fX12_followsKey_b151 h a0 a1 a2 a3 l4 l6 = some r) (hk : K r) : Wq p l e R s m args below meth c D G A H0 true n0 M_X12_followsKey x 0 0 151 [(0, (22, a0)), (1, (0, a1)), (2, (0, a2)), (3, (0, a3)), (4, (0, l4)), (6, (2, l6))] [] h := by
  unfold fX12_followsKey_b151 at hr
  refine r_iload dX12_followsKey_151 5 rfl (Or.inr rfl) ?_
  refine r_scast 0 (v := (2, l6)) (w := (0, l6)) rfl zc hTz (st' := [(0, l6)]) rfl ?_
  refine r_if_eq dX12_followsKey_153 (tgt := 183) (by decide) (fun hc => ?_) (fun hc => ?_)
  · have hr := ifp hr hc
    obtain rfl := Option.some.inj hr
    exact r_vret dX12_followsKey_183 rfl (k0 _ hk) ⟨rfl, rfl⟩
  · have hr := ifn hr hc
    refine r_aload_n dX12_followsKey_156 rfl 0 rfl (nl rfl) ?_
    refine r_iload_n dX12_followsKey_157 rfl 1 rfl (Or.inl rfl) ?_
    refine r_aload_n dX12_followsKey_158 rfl 0 rfl (nl rfl) ?_
    refine r_iload_n dX12_followsKey_159 rfl 2 rfl (Or.inl rfl) ?_
    refine r_iconst dX12_followsKey_160 (by decide) ?_
    obtain ⟨r161, hg161, hr⟩ := bnd hr
    refine k_V (ci := 12) (o := a0) (T := TX12) (as := [(0, a2), (0, 1)]) (rest := [(0, a1), (22, a0)]) (X := (some (0, r161), h)) (oX12_refCol hg161) gX12_refCol rfl (by decide) rfl (wsl_44 _ (List.mem_of_getElem? (i := 20) rfl)) rfl dX12_followsKey_161 rfl ?_
    refine r_aload_n dX12_followsKey_164 rfl 0 rfl (nl rfl) ?_
    refine r_get 12 27 (o := a0) (w := (50, h a0 27)) (T := TX12) (ref := "FollowingRefsModel") rfl (by decide) rfl (by decide) inlX12 (wsl_7 _ (List.mem_of_getElem? (i := 17) rfl)) rfl dX12_followsKey_165 rfl ?_
    refine r_iconst dX12_followsKey_168 (by decide) ?_
    refine r_iload_n dX12_followsKey_169 rfl 3 rfl (Or.inl rfl) ?_
    refine r_imul dX12_followsKey_170 ?_
    refine r_aload_n dX12_followsKey_171 rfl 0 rfl (nl rfl) ?_
    refine r_iload dX12_followsKey_172 4 rfl (Or.inl rfl) ?_
    refine r_iconst dX12_followsKey_174 (by decide) ?_
    obtain ⟨r175, hg175, hr⟩ := bnd hr
    refine k_V (ci := 12) (o := a0) (T := TX12) (as := [(0, l4), (0, 1)]) (rest := [(0, w32 (4 * a3)), (50, h a0 27), (0, r161), (0, a1), (22, a0)]) (X := (some (0, r175), h)) (oX12_keyCol hg175) gX12_keyCol rfl (by decide) rfl (wsl_44 _ (List.mem_of_getElem? (i := 8) rfl)) rfl dX12_followsKey_175 rfl ?_
    refine r_iadd dX12_followsKey_178 ?_
    obtain ⟨v179, hg179, hr⟩ := bnd hr
    refine r_iald dX12_followsKey_179 hg179 ?_
    obtain ⟨h180, hg180, hr⟩ := bnd hr
    refine k_V (ci := 12) (o := a0) (T := TX12) (as := [(0, a1), (0, r161), (0, v179)]) (rest := []) (X := (none, h180)) (oX12_wants hg180) gX12_wants rfl (by decide) rfl (wsl_43 _ (List.mem_of_getElem? (i := 16) rfl)) rfl dX12_followsKey_180 rfl ?_
    obtain rfl := Option.some.inj hr
    exact r_vret dX12_followsKey_183 rfl (k0 _ hk) ⟨rfl, rfl⟩
set_option maxRecDepth 100000 in
set_option maxHeartbeats 4000000 in
theorem oX12_followsKey_b105 {a0 a1 a2 a3 l4 l5 l6 : Int} {K : hH → Prop} (k0 : ∀ r, K (r) → x = (none, r)) {r : hH} (hr : fX12_followsKey_b105 h a0 a1 a2 a3 l4 l5 l6 = some r) (hk : K r) : Wq p l e R s m args below meth c D G A H0 true n0 M_X12_followsKey x 0 0 105 [(0, (22, a0)), (1, (0, a1)), (2, (0, a2)), (3, (0, a3)), (4, (0, l4)), (5, (2, l5)), (6, (2, l6))] [] h := by
  unfold fX12_followsKey_b105 at hr
  refine r_aload_n dX12_followsKey_105 rfl 0 rfl (nl rfl) ?_
  refine r_get 12 6 (o := a0) (w := (50, h a0 6)) (T := TX12) (ref := "FollowingRefsModel") rfl (by decide) rfl (by decide) inlX12 (wsl_7 _ (List.mem_of_getElem? (i := 8) rfl)) rfl dX12_followsKey_106 rfl ?_
  refine r_bipush dX12_followsKey_109 (by decide) (by decide) ?_
  refine r_iload_n dX12_followsKey_111 rfl 2 rfl (Or.inl rfl) ?_
  refine r_iadd dX12_followsKey_112 ?_
  obtain ⟨v113, hg113, hr⟩ := bnd hr
  refine r_iald dX12_followsKey_113 hg113 ?_
  refine r_iconst dX12_followsKey_114 (by decide) ?_
  refine r_icmp_eq dX12_followsKey_115 (tgt := 119) (by decide) (fun hc => ?_) (fun hc => ?_)
  · have hr := ifp hr hc
    refine r_iload dX12_followsKey_119 5 rfl (Or.inr rfl) ?_
    refine r_scast 0 (v := (2, l5)) (w := (0, l5)) rfl zc hTz (st' := [(0, l5)]) rfl ?_
    refine r_if_eq dX12_followsKey_121 (tgt := 151) (by decide) (fun hc => ?_) (fun hc => ?_)
    · have hr := ifp hr hc
      refine r_sub [0, 1, 2, 3, 4, 6] (lv' := [(0, (22, a0)), (1, (0, a1)), (2, (0, a2)), (3, (0, a3)), (4, (0, l4)), (6, (2, l6))]) rfl ?_
      exact oX12_followsKey_b151 (K := K) (fun r z => k0 r z) hr hk
    · have hr := ifn hr hc
      refine r_aload_n dX12_followsKey_124 rfl 0 rfl (nl rfl) ?_
      refine r_iload_n dX12_followsKey_125 rfl 1 rfl (Or.inl rfl) ?_
      refine r_aload_n dX12_followsKey_126 rfl 0 rfl (nl rfl) ?_
      refine r_iload_n dX12_followsKey_127 rfl 2 rfl (Or.inl rfl) ?_
      refine r_iconst dX12_followsKey_128 (by decide) ?_
      obtain ⟨r129, hg129, hr⟩ := bnd hr
      refine k_V (ci := 12) (o := a0) (T := TX12) (as := [(0, a2), (0, 0)]) (rest := [(0, a1), (22, a0)]) (X := (some (0, r129), h)) (oX12_refCol hg129) gX12_refCol rfl (by decide) rfl (wsl_44 _ (List.mem_of_getElem? (i := 20) rfl)) rfl dX12_followsKey_129 rfl ?_
      refine r_aload_n dX12_followsKey_132 rfl 0 rfl (nl rfl) ?_
      refine r_get 12 27 (o := a0) (w := (50, h a0 27)) (T := TX12) (ref := "FollowingRefsModel") rfl (by decide) rfl (by decide) inlX12 (wsl_7 _ (List.mem_of_getElem? (i := 17) rfl)) rfl dX12_followsKey_133 rfl ?_
      refine r_iconst dX12_followsKey_136 (by decide) ?_
      refine r_iload_n dX12_followsKey_137 rfl 3 rfl (Or.inl rfl) ?_
      refine r_imul dX12_followsKey_138 ?_
      refine r_aload_n dX12_followsKey_139 rfl 0 rfl (nl rfl) ?_
      refine r_iload dX12_followsKey_140 4 rfl (Or.inl rfl) ?_
      refine r_iconst dX12_followsKey_142 (by decide) ?_
      obtain ⟨r143, hg143, hr⟩ := bnd hr
      refine k_V (ci := 12) (o := a0) (T := TX12) (as := [(0, l4), (0, 0)]) (rest := [(0, w32 (4 * a3)), (50, h a0 27), (0, r129), (0, a1), (22, a0)]) (X := (some (0, r143), h)) (oX12_keyCol hg143) gX12_keyCol rfl (by decide) rfl (wsl_44 _ (List.mem_of_getElem? (i := 8) rfl)) rfl dX12_followsKey_143 rfl ?_
      refine r_iadd dX12_followsKey_146 ?_
      obtain ⟨v147, hg147, hr⟩ := bnd hr
      refine r_iald dX12_followsKey_147 hg147 ?_
      obtain ⟨h148, hg148, hr⟩ := bnd hr
      refine k_V (ci := 12) (o := a0) (T := TX12) (as := [(0, a1), (0, r129), (0, v147)]) (rest := []) (X := (none, h148)) (oX12_wants hg148) gX12_wants rfl (by decide) rfl (wsl_43 _ (List.mem_of_getElem? (i := 16) rfl)) rfl dX12_followsKey_148 rfl ?_
      refine r_sub [0, 1, 2, 3, 4, 6] (lv' := [(0, (22, a0)), (1, (0, a1)), (2, (0, a2)), (3, (0, a3)), (4, (0, l4)), (6, (2, l6))]) rfl ?_
      exact oX12_followsKey_b151 (K := K) (fun r z => k0 r z) hr hk
  · have hr := ifn hr hc
    obtain rfl := Option.some.inj hr
    exact r_vret dX12_followsKey_118 rfl (k0 _ hk) ⟨rfl, rfl⟩
set_option maxRecDepth 100000 in
set_option maxHeartbeats 4000000 in
theorem oX12_followsKey_b102 {a0 a1 a2 a3 l4 l5 l6 s0 s1 s2 s3 : Int} {K : hH → Prop} (k0 : ∀ r, K (r) → x = (none, r)) {r : hH} (hr : fX12_followsKey_b102 h a0 a1 a2 a3 l4 l5 l6 s0 s1 s2 s3 = some r) (hk : K r) : Wq p l e R s m args below meth c D G A H0 true n0 M_X12_followsKey x 0 0 102 [(0, (22, a0)), (1, (0, a1)), (2, (0, a2)), (3, (0, a3)), (4, (0, l4)), (5, (2, l5)), (6, (2, l6))] [(2, s0), (0, s1), (0, s2), (22, s3)] h := by
  unfold fX12_followsKey_b102 at hr
  obtain ⟨h102, hg102, hr⟩ := bnd hr
  refine k_V (ci := 12) (o := s3) (T := TX12) (as := [(0, s2), (0, s1), (2, s0)]) (rest := []) (X := (none, h102)) (oX12_wantsAll hg102) gX12_wantsAll rfl (by decide) rfl (wsl_44 _ (List.mem_of_getElem? (i := 16) rfl)) rfl dX12_followsKey_102 rfl ?_
  exact oX12_followsKey_b105 (K := K) (fun r z => k0 r z) hr hk
set_option maxRecDepth 100000 in
set_option maxHeartbeats 4000000 in
theorem oX12_followsKey_b68 {a0 a1 a2 a3 l4 l5 l6 : Int} {K : hH → Prop} (k0 : ∀ r, K (r) → x = (none, r)) {r : hH} (hr : fX12_followsKey_b68 h a0 a1 a2 a3 l4 l5 l6 = some r) (hk : K r) : Wq p l e R s m args below meth c D G A H0 true n0 M_X12_followsKey x 0 0 68 [(0, (22, a0)), (1, (0, a1)), (2, (0, a2)), (3, (0, a3)), (4, (0, l4)), (5, (2, l5)), (6, (2, l6))] [] h := by
  unfold fX12_followsKey_b68 at hr
  refine r_aload_n dX12_followsKey_68 rfl 0 rfl (nl rfl) ?_
  refine r_get 12 6 (o := a0) (w := (50, h a0 6)) (T := TX12) (ref := "FollowingRefsModel") rfl (by decide) rfl (by decide) inlX12 (wsl_7 _ (List.mem_of_getElem? (i := 8) rfl)) rfl dX12_followsKey_69 rfl ?_
  refine r_bipush dX12_followsKey_72 (by decide) (by decide) ?_
  refine r_iload_n dX12_followsKey_74 rfl 2 rfl (Or.inl rfl) ?_
  refine r_iadd dX12_followsKey_75 ?_
  obtain ⟨v76, hg76, hr⟩ := bnd hr
  refine r_iald dX12_followsKey_76 hg76 ?_
  refine r_iconst dX12_followsKey_77 (by decide) ?_
  refine r_icmp_le dX12_followsKey_78 (tgt := 105) (by decide) (fun hc => ?_) (fun hc => ?_)
  · have hr := ifn hr hc
    exact oX12_followsKey_b105 (K := K) (fun r z => k0 r z) hr hk
  · have hr := ifp hr hc
    refine r_aload_n dX12_followsKey_81 rfl 0 rfl (nl rfl) ?_
    refine r_iload_n dX12_followsKey_82 rfl 1 rfl (Or.inl rfl) ?_
    refine r_iload_n dX12_followsKey_83 rfl 2 rfl (Or.inl rfl) ?_
    refine r_aload_n dX12_followsKey_84 rfl 0 rfl (nl rfl) ?_
    refine r_get 12 6 (o := a0) (w := (50, h a0 6)) (T := TX12) (ref := "FollowingRefsModel") rfl (by decide) rfl (by decide) inlX12 (wsl_7 _ (List.mem_of_getElem? (i := 8) rfl)) rfl dX12_followsKey_85 rfl ?_
    refine r_bipush dX12_followsKey_88 (by decide) (by decide) ?_
    refine r_iload_n dX12_followsKey_90 rfl 2 rfl (Or.inl rfl) ?_
    refine r_iadd dX12_followsKey_91 ?_
    obtain ⟨v92, hg92, hr⟩ := bnd hr
    refine r_iald dX12_followsKey_92 hg92 ?_
    refine r_iconst dX12_followsKey_93 (by decide) ?_
    refine r_icmp_ne dX12_followsKey_94 (tgt := 101) (by decide) (fun hc => ?_) (fun hc => ?_)
    · have hr := ifn hr hc
      refine r_iconst dX12_followsKey_101 (by decide) ?_
      refine r_scast 0 (v := (0, 0)) (w := (2, 0)) rfl cz (fun _ => Or.inl rfl) (st' := [(2, 0), (0, a2), (0, a1), (22, a0)]) rfl ?_
      exact oX12_followsKey_b102 (K := K) (fun r z => k0 r z) hr hk
    · have hr := ifp hr hc
      refine r_iconst dX12_followsKey_97 (by decide) ?_
      refine r_goto dX12_followsKey_98 (tgt := 102) (by decide) ?_
      refine r_scast 0 (v := (0, 1)) (w := (2, 1)) rfl cz (fun _ => Or.inr rfl) (st' := [(2, 1), (0, a2), (0, a1), (22, a0)]) rfl ?_
      exact oX12_followsKey_b102 (K := K) (fun r z => k0 r z) hr hk
set_option maxRecDepth 100000 in
set_option maxHeartbeats 4000000 in
theorem oX12_followsKey_b55 {a0 a1 a2 a3 l4 l5 s0 : Int} {K : hH → Prop} (k0 : ∀ r, K (r) → x = (none, r)) {r : hH} (hr : fX12_followsKey_b55 h a0 a1 a2 a3 l4 l5 s0 = some r) (hk : K r) : Wq p l e R s m args below meth c D G A H0 true n0 M_X12_followsKey x 0 0 55 [(0, (22, a0)), (1, (0, a1)), (2, (0, a2)), (3, (0, a3)), (4, (0, l4)), (5, (2, l5))] [(2, s0)] h := by
  unfold fX12_followsKey_b55 at hr
  refine r_istore dX12_followsKey_55 (Or.inr rfl) (by decide) (lv' := [(6, (2, s0)), (0, (22, a0)), (1, (0, a1)), (2, (0, a2)), (3, (0, a3)), (4, (0, l4)), (5, (2, l5))]) rfl ?_
  refine r_iload dX12_followsKey_57 6 rfl (Or.inr rfl) ?_
  refine r_scast 0 (v := (2, l5)) (w := (0, l5)) rfl zc hTz (st' := [(0, l5)]) rfl ?_
  refine r_if_ne dX12_followsKey_59 (tgt := 68) (by decide) (fun hc => ?_) (fun hc => ?_)
  · have hr := ifn hr hc
    refine r_sub [1, 2, 3, 4, 5, 6, 0] (lv' := [(0, (22, a0)), (1, (0, a1)), (2, (0, a2)), (3, (0, a3)), (4, (0, l4)), (5, (2, l5)), (6, (2, s0))]) rfl ?_
    exact oX12_followsKey_b68 (K := K) (fun r z => k0 r z) hr hk
  · have hr := ifp hr hc
    refine r_iload dX12_followsKey_62 0 rfl (Or.inr rfl) ?_
    refine r_scast 0 (v := (2, s0)) (w := (0, s0)) rfl zc hTz (st' := [(0, s0)]) rfl ?_
    refine r_if_ne dX12_followsKey_64 (tgt := 68) (by decide) (fun hc => ?_) (fun hc => ?_)
    · have hr := ifn hr hc
      refine r_sub [1, 2, 3, 4, 5, 6, 0] (lv' := [(0, (22, a0)), (1, (0, a1)), (2, (0, a2)), (3, (0, a3)), (4, (0, l4)), (5, (2, l5)), (6, (2, s0))]) rfl ?_
      exact oX12_followsKey_b68 (K := K) (fun r z => k0 r z) hr hk
    · have hr := ifp hr hc
      obtain rfl := Option.some.inj hr
      exact r_vret dX12_followsKey_67 rfl (k0 _ hk) ⟨rfl, rfl⟩
set_option maxRecDepth 100000 in
set_option maxHeartbeats 4000000 in
theorem oX12_followsKey_b54 {a0 a1 a2 a3 l4 l5 : Int} {K : hH → Prop} (k0 : ∀ r, K (r) → x = (none, r)) {r : hH} (hr : fX12_followsKey_b54 h a0 a1 a2 a3 l4 l5 = some r) (hk : K r) : Wq p l e R s m args below meth c D G A H0 true n0 M_X12_followsKey x 0 0 54 [(0, (22, a0)), (1, (0, a1)), (2, (0, a2)), (3, (0, a3)), (4, (0, l4)), (5, (2, l5))] [] h := by
  unfold fX12_followsKey_b54 at hr
  refine r_iconst dX12_followsKey_54 (by decide) ?_
  refine r_scast 0 (v := (0, 0)) (w := (2, 0)) rfl cz (fun _ => Or.inl rfl) (st' := [(2, 0)]) rfl ?_
  exact oX12_followsKey_b55 (K := K) (fun r z => k0 r z) hr hk
set_option maxRecDepth 100000 in
set_option maxHeartbeats 4000000 in
theorem oX12_followsKey_b0 {a0 a1 a2 a3 : Int} {K : hH → Prop} (k0 : ∀ r, K (r) → x = (none, r)) {r : hH} (hr : fX12_followsKey h a0 a1 a2 a3 = some r) (hk : K r) : Wq p l e R s m args below meth c D G A H0 true n0 M_X12_followsKey x 0 0 0 [(0, (22, a0)), (1, (0, a1)), (2, (0, a2)), (3, (0, a3))] [] h := by
  unfold fX12_followsKey at hr
  refine r_aload_n dX12_followsKey_0 rfl 0 rfl (nl rfl) ?_
  refine r_get 12 6 (o := a0) (w := (50, h a0 6)) (T := TX12) (ref := "FollowingRefsModel") rfl (by decide) rfl (by decide) inlX12 (wsl_7 _ (List.mem_of_getElem? (i := 8) rfl)) rfl dX12_followsKey_1 rfl ?_
  refine r_bipush dX12_followsKey_4 (by decide) (by decide) ?_
  refine r_iload_n dX12_followsKey_6 rfl 2 rfl (Or.inl rfl) ?_
  refine r_iadd dX12_followsKey_7 ?_
  obtain ⟨v8, hg8, hr⟩ := bnd hr
  refine r_iald dX12_followsKey_8 hg8 ?_
  refine r_istore dX12_followsKey_9 (Or.inl rfl) (by decide) (lv' := [(4, (0, v8)), (0, (22, a0)), (1, (0, a1)), (2, (0, a2)), (3, (0, a3))]) rfl ?_
  refine r_aload_n dX12_followsKey_11 rfl 1 rfl (nl rfl) ?_
  refine r_iload_n dX12_followsKey_12 rfl 4 rfl (Or.inl rfl) ?_
  refine r_aload_n dX12_followsKey_13 rfl 1 rfl (nl rfl) ?_
  refine r_iload dX12_followsKey_14 0 rfl (Or.inl rfl) ?_
  refine r_iconst dX12_followsKey_16 (by decide) ?_
  obtain ⟨r17, hg17, hr⟩ := bnd hr
  refine k_V (ci := 12) (o := a0) (T := TX12) (as := [(0, v8), (0, 0)]) (rest := [(0, a3), (22, a0)]) (X := (some (0, r17), h)) (oX12_keyCol hg17) gX12_keyCol rfl (by decide) rfl (wsl_44 _ (List.mem_of_getElem? (i := 8) rfl)) rfl dX12_followsKey_17 rfl ?_
  obtain ⟨r20, hg20, hr⟩ := bnd hr
  refine k_V (ci := 12) (o := a0) (T := TX12) (as := [(0, a3), (0, r17)]) (rest := []) (X := (some (2, r20), h)) (oX12_isOther hg20) gX12_isOther rfl (by decide) rfl (wsl_44 _ (List.mem_of_getElem? (i := 12) rfl)) rfl dX12_followsKey_20 rfl ?_
  refine r_istore dX12_followsKey_23 (Or.inr rfl) (by decide) (lv' := [(5, (2, r20)), (4, (0, v8)), (0, (22, a0)), (1, (0, a1)), (2, (0, a2)), (3, (0, a3))]) rfl ?_
  refine r_aload_n dX12_followsKey_25 rfl 2 rfl (nl rfl) ?_
  refine r_iload dX12_followsKey_26 1 rfl (Or.inl rfl) ?_
  refine r_iconst dX12_followsKey_28 (by decide) ?_
  obtain ⟨r29, hg29, hr⟩ := bnd hr
  refine k_V (ci := 12) (o := a0) (T := TX12) (as := [(0, v8), (0, 1)]) (rest := []) (X := (some (0, r29), h)) (oX12_keyCol hg29) gX12_keyCol rfl (by decide) rfl (wsl_44 _ (List.mem_of_getElem? (i := 8) rfl)) rfl dX12_followsKey_29 rfl ?_
  refine r_if_lt dX12_followsKey_32 (tgt := 54) (by decide) (fun hc => ?_) (fun hc => ?_)
  · have hr := ifp hr hc
    refine r_sub [2, 3, 4, 5, 1, 0] (lv' := [(0, (22, a0)), (1, (0, a1)), (2, (0, a2)), (3, (0, a3)), (4, (0, v8)), (5, (2, r20))]) rfl ?_
    exact oX12_followsKey_b54 (K := K) (fun r z => k0 r z) hr hk
  · have hr := ifn hr hc
    refine r_aload_n dX12_followsKey_35 rfl 2 rfl (nl rfl) ?_
    refine r_iload_n dX12_followsKey_36 rfl 5 rfl (Or.inl rfl) ?_
    refine r_aload_n dX12_followsKey_37 rfl 2 rfl (nl rfl) ?_
    refine r_iload dX12_followsKey_38 1 rfl (Or.inl rfl) ?_
    refine r_iconst dX12_followsKey_40 (by decide) ?_
    obtain ⟨r41, hg41, hr⟩ := bnd hr
    refine k_V (ci := 12) (o := a0) (T := TX12) (as := [(0, v8), (0, 1)]) (rest := [(0, a3), (22, a0)]) (X := (some (0, r41), h)) (oX12_keyCol hg41) gX12_keyCol rfl (by decide) rfl (wsl_44 _ (List.mem_of_getElem? (i := 8) rfl)) rfl dX12_followsKey_41 rfl ?_
    obtain ⟨r44, hg44, hr⟩ := bnd hr
    refine k_V (ci := 12) (o := a0) (T := TX12) (as := [(0, a3), (0, r41)]) (rest := []) (X := (some (2, r44), h)) (oX12_isOther hg44) gX12_isOther rfl (by decide) rfl (wsl_44 _ (List.mem_of_getElem? (i := 12) rfl)) rfl dX12_followsKey_44 rfl ?_
    refine r_scast 0 (v := (2, r44)) (w := (0, r44)) rfl zc hTz (st' := [(0, r44)]) rfl ?_
    refine r_if_eq dX12_followsKey_47 (tgt := 54) (by decide) (fun hc => ?_) (fun hc => ?_)
    · have hr := ifp hr hc
      refine r_sub [2, 3, 4, 5, 1, 0] (lv' := [(0, (22, a0)), (1, (0, a1)), (2, (0, a2)), (3, (0, a3)), (4, (0, v8)), (5, (2, r20))]) rfl ?_
      exact oX12_followsKey_b54 (K := K) (fun r z => k0 r z) hr hk
    · have hr := ifn hr hc
      refine r_iconst dX12_followsKey_50 (by decide) ?_
      refine r_goto dX12_followsKey_51 (tgt := 55) (by decide) ?_
      refine r_sub [2, 3, 4, 5, 1, 0] (lv' := [(0, (22, a0)), (1, (0, a1)), (2, (0, a2)), (3, (0, a3)), (4, (0, v8)), (5, (2, r20))]) rfl ?_
      refine r_scast 0 (v := (0, 1)) (w := (2, 1)) rfl cz (fun _ => Or.inr rfl) (st' := [(2, 1)]) rfl ?_
      exact oX12_followsKey_b55 (K := K) (fun r z => k0 r z) hr hk
end M_X12_followsKey
theorem oX12_followsKey {l : Launch} {D : va_G} {G : gG} {h : hH} {a0 a1 a2 a3 : Int} {r : hH} (hr : fX12_followsKey h a0 a1 a2 a3 = some r) : Ctr l D G true yX12_followsKey M_X12_followsKey [(22, a0), (0, a1), (0, a2), (0, a3)] h (none, r) :=
  Ctr_of (by decide) rfl (fun z => by cases z) (nl rfl) (fun {p e R s m args below meth c A H0} => by
    exact oX12_followsKey_b0 (K := fun z9 => z9 = r) (fun r9 z => by rw [z]) hr rfl)
/-! X12_follows -/
theorem dX12_follows_0 : decode cX12_follows 0 = .ok (.iconst 0, 1) := by decide +kernel
theorem dX12_follows_1 : decode cX12_follows 1 = .ok (.istore_n 2, 1) := by decide +kernel
theorem dX12_follows_2 : decode cX12_follows 2 = .ok (.iload_n 2, 1) := by decide +kernel
theorem dX12_follows_3 : decode cX12_follows 3 = .ok (.aload_n 0, 1) := by decide +kernel
theorem dX12_follows_4 : decode cX12_follows 4 = .ok (.getfield 33, 3) := by decide +kernel
theorem dX12_follows_7 : decode cX12_follows 7 = .ok (.iconst 2, 1) := by decide +kernel
theorem dX12_follows_8 : decode cX12_follows 8 = .ok (.iaload, 1) := by decide +kernel
theorem dX12_follows_9 : decode cX12_follows 9 = .ok (.if_icmp .ge 110, 3) := by decide +kernel
theorem dX12_follows_12 : decode cX12_follows 12 = .ok (.aload_n 0, 1) := by decide +kernel
theorem dX12_follows_13 : decode cX12_follows 13 = .ok (.getfield 33, 3) := by decide +kernel
theorem dX12_follows_16 : decode cX12_follows 16 = .ok (.bipush 58, 2) := by decide +kernel
theorem dX12_follows_18 : decode cX12_follows 18 = .ok (.iload_n 2, 1) := by decide +kernel
theorem dX12_follows_19 : decode cX12_follows 19 = .ok (.iadd, 1) := by decide +kernel
theorem dX12_follows_20 : decode cX12_follows 20 = .ok (.iaload, 1) := by decide +kernel
theorem dX12_follows_21 : decode cX12_follows 21 = .ok (.aload_n 0, 1) := by decide +kernel
theorem dX12_follows_22 : decode cX12_follows 22 = .ok (.getfield 33, 3) := by decide +kernel
theorem dX12_follows_25 : decode cX12_follows 25 = .ok (.sipush 249, 3) := by decide +kernel
theorem dX12_follows_28 : decode cX12_follows 28 = .ok (.iload_n 1, 1) := by decide +kernel
theorem dX12_follows_29 : decode cX12_follows 29 = .ok (.iadd, 1) := by decide +kernel
theorem dX12_follows_30 : decode cX12_follows 30 = .ok (.iaload, 1) := by decide +kernel
theorem dX12_follows_31 : decode cX12_follows 31 = .ok (.if_icmp .ne 17, 3) := by decide +kernel
theorem dX12_follows_34 : decode cX12_follows 34 = .ok (.aload_n 0, 1) := by decide +kernel
theorem dX12_follows_35 : decode cX12_follows 35 = .ok (.getfield 65, 3) := by decide +kernel
theorem dX12_follows_38 : decode cX12_follows 38 = .ok (.bipush 6, 2) := by decide +kernel
theorem dX12_follows_40 : decode cX12_follows 40 = .ok (.iload_n 1, 1) := by decide +kernel
theorem dX12_follows_41 : decode cX12_follows 41 = .ok (.imul, 1) := by decide +kernel
theorem dX12_follows_42 : decode cX12_follows 42 = .ok (.iload_n 2, 1) := by decide +kernel
theorem dX12_follows_43 : decode cX12_follows 43 = .ok (.iadd, 1) := by decide +kernel
theorem dX12_follows_44 : decode cX12_follows 44 = .ok (.iaload, 1) := by decide +kernel
theorem dX12_follows_45 : decode cX12_follows 45 = .ok (.goto 4, 3) := by decide +kernel
theorem dX12_follows_48 : decode cX12_follows 48 = .ok (.iconst (-1), 1) := by decide +kernel
theorem dX12_follows_49 : decode cX12_follows 49 = .ok (.istore_n 3, 1) := by decide +kernel
theorem dX12_follows_50 : decode cX12_follows 50 = .ok (.iload_n 3, 1) := by decide +kernel
theorem dX12_follows_51 : decode cX12_follows 51 = .ok (.ifCond .ge 6, 3) := by decide +kernel
theorem dX12_follows_54 : decode cX12_follows 54 = .ok (.goto 59, 3) := by decide +kernel
theorem dX12_follows_57 : decode cX12_follows 57 = .ok (.aload_n 0, 1) := by decide +kernel
theorem dX12_follows_58 : decode cX12_follows 58 = .ok (.getfield 68, 3) := by decide +kernel
theorem dX12_follows_61 : decode cX12_follows 61 = .ok (.iload_n 3, 1) := by decide +kernel
theorem dX12_follows_62 : decode cX12_follows 62 = .ok (.iaload, 1) := by decide +kernel
theorem dX12_follows_63 : decode cX12_follows 63 = .ok (.ifCond .ge 13, 3) := by decide +kernel
theorem dX12_follows_66 : decode cX12_follows 66 = .ok (.aload_n 0, 1) := by decide +kernel
theorem dX12_follows_67 : decode cX12_follows 67 = .ok (.iload_n 1, 1) := by decide +kernel
theorem dX12_follows_68 : decode cX12_follows 68 = .ok (.iload_n 2, 1) := by decide +kernel
theorem dX12_follows_69 : decode cX12_follows 69 = .ok (.iload_n 3, 1) := by decide +kernel
theorem dX12_follows_70 : decode cX12_follows 70 = .ok (.invokevirtual 399, 3) := by decide +kernel
theorem dX12_follows_73 : decode cX12_follows 73 = .ok (.goto 40, 3) := by decide +kernel
theorem dX12_follows_76 : decode cX12_follows 76 = .ok (.aload_n 0, 1) := by decide +kernel
theorem dX12_follows_77 : decode cX12_follows 77 = .ok (.getfield 33, 3) := by decide +kernel
theorem dX12_follows_80 : decode cX12_follows 80 = .ok (.bipush 88, 2) := by decide +kernel
theorem dX12_follows_82 : decode cX12_follows 82 = .ok (.iload_n 2, 1) := by decide +kernel
theorem dX12_follows_83 : decode cX12_follows 83 = .ok (.iadd, 1) := by decide +kernel
theorem dX12_follows_84 : decode cX12_follows 84 = .ok (.iaload, 1) := by decide +kernel
theorem dX12_follows_85 : decode cX12_follows 85 = .ok (.iconst 1, 1) := by decide +kernel
theorem dX12_follows_86 : decode cX12_follows 86 = .ok (.if_icmp .le 27, 3) := by decide +kernel
theorem dX12_follows_89 : decode cX12_follows 89 = .ok (.aload_n 0, 1) := by decide +kernel
theorem dX12_follows_90 : decode cX12_follows 90 = .ok (.iload_n 1, 1) := by decide +kernel
theorem dX12_follows_91 : decode cX12_follows 91 = .ok (.iload_n 2, 1) := by decide +kernel
theorem dX12_follows_92 : decode cX12_follows 92 = .ok (.aload_n 0, 1) := by decide +kernel
theorem dX12_follows_93 : decode cX12_follows 93 = .ok (.getfield 33, 3) := by decide +kernel
theorem dX12_follows_96 : decode cX12_follows 96 = .ok (.bipush 88, 2) := by decide +kernel
theorem dX12_follows_98 : decode cX12_follows 98 = .ok (.iload_n 2, 1) := by decide +kernel
theorem dX12_follows_99 : decode cX12_follows 99 = .ok (.iadd, 1) := by decide +kernel
theorem dX12_follows_100 : decode cX12_follows 100 = .ok (.iaload, 1) := by decide +kernel
theorem dX12_follows_101 : decode cX12_follows 101 = .ok (.iconst 3, 1) := by decide +kernel
theorem dX12_follows_102 : decode cX12_follows 102 = .ok (.if_icmp .ne 7, 3) := by decide +kernel
theorem dX12_follows_105 : decode cX12_follows 105 = .ok (.iconst 1, 1) := by decide +kernel
theorem dX12_follows_106 : decode cX12_follows 106 = .ok (.goto 4, 3) := by decide +kernel
theorem dX12_follows_109 : decode cX12_follows 109 = .ok (.iconst 0, 1) := by decide +kernel
theorem dX12_follows_110 : decode cX12_follows 110 = .ok (.invokevirtual 395, 3) := by decide +kernel
theorem dX12_follows_113 : decode cX12_follows 113 = .ok (.iinc 2 1, 3) := by decide +kernel
theorem dX12_follows_116 : decode cX12_follows 116 = .ok (.goto (-114), 3) := by decide +kernel
theorem dX12_follows_119 : decode cX12_follows 119 = .ok (.return_, 1) := by decide +kernel
abbrev M_X12_follows : mM := (cX12_follows, 4, RX12, none, false, 3, 75, 0, 0)
theorem gX12_follows : cI yX12_follows M_X12_follows 1 := ⟨(wsl_44 _ (List.mem_of_getElem? (i := 1) rfl)), (wsl_44 _ (List.mem_of_getElem? (i := 2) rfl)), (wsl_1 _ (List.mem_of_getElem? (i := 5) rfl)), (wsl_44 _ (List.mem_of_getElem? (i := 3) rfl)), by decide +kernel⟩
noncomputable def fX12_follows_b110 (h : hH) (a0 a1 l2 s0 s1 s2 s3 : Int) : Option ((hH × Int) ⊕ (hH)) :=
  (fX12_wantsAll h s3 s2 s1 s0).bind fun h110 =>
  some (.inl (h110, w32 (l2 + 1)))
noncomputable def fX12_follows_b49 (h : hH) (a0 a1 l2 s0 : Int) : Option ((hH × Int) ⊕ (hH)) :=
  if s0 < 0 then
    some (.inl (h, w32 (l2 + 1)))
  else
    (aget h (h a0 29) s0).bind fun v62 =>
    if v62 < 0 then
      (fX12_followsKey h a0 a1 l2 s0).bind fun h70 =>
      some (.inl (h70, w32 (l2 + 1)))
    else
      (aget h (h a0 6) (w32 (88 + l2))).bind fun v84 =>
      if 1 < v84 then
        (aget h (h a0 6) (w32 (88 + l2))).bind fun v100 =>
        if v100 = 3 then
          fX12_follows_b110 h a0 a1 l2 1 l2 a1 a0
        else
          fX12_follows_b110 h a0 a1 l2 0 l2 a1 a0
      else
        some (.inl (h, w32 (l2 + 1)))
noncomputable def fX12_follows_s2 (h0 : hH) (a0 a1 : Int) : hH × Int → Option ((hH × Int) ⊕ (hH)) := fun (h, l2) =>
  (aget h (h a0 6) 2).bind fun v8 =>
  if l2 < v8 then
    (aget h (h a0 6) (w32 (58 + l2))).bind fun v20 =>
    (aget h (h a0 6) (w32 (249 + a1))).bind fun v30 =>
    if v20 = v30 then
      (aget h (h a0 28) (w32 ((w32 (6 * a1)) + l2))).bind fun v44 =>
      fX12_follows_b49 h a0 a1 l2 v44
    else
      fX12_follows_b49 h a0 a1 l2 (-1)
  else
    some (.inr (h))
noncomputable def fX12_follows (h : hH) (a0 a1 : Int) : Option (hH) :=
  lpO (fX12_follows_s2 h a0 a1) (h, 0)
section M_X12_follows
variable {p : Program} {l : Launch} {e : Env} {R : Room} {s : State} {m : MethodId} {args : Array Value} {below : List Frame} {meth : Method} {c : Code} {D : va_G} {G : gG} {A : Nat → Prop} {H0 : Heap} {n0 : Int} {x : Option vV × hH} {h : hH}
set_option maxRecDepth 100000 in
set_option maxHeartbeats 4000000 in
theorem oX12_follows_b110 {a0 a1 l2 s0 s1 s2 s3 : Int} {K : (hH × Int) ⊕ (hH) → Prop} (k0 : ∀ r, K (.inr (r)) → x = (none, r)) (k1 : ∀ (h : hH) (l2 : Int), K (.inl (h, l2)) → Wq p l e R s m args below meth c D G A H0 true n0 M_X12_follows x 0 0 2 [(0, (22, a0)), (1, (0, a1)), (2, (0, l2))] [] h) {r : (hH × Int) ⊕ (hH)} (hr : fX12_follows_b110 h a0 a1 l2 s0 s1 s2 s3 = some r) (hk : K r) : Wq p l e R s m args below meth c D G A H0 true n0 M_X12_follows x 0 0 110 [(0, (22, a0)), (1, (0, a1)), (2, (0, l2))] [(2, s0), (0, s1), (0, s2), (22, s3)] h := by
  unfold fX12_follows_b110 at hr
  obtain ⟨h110, hg110, hr⟩ := bnd hr
  refine k_V (ci := 12) (o := s3) (T := TX12) (as := [(0, s2), (0, s1), (2, s0)]) (rest := []) (X := (none, h110)) (oX12_wantsAll hg110) gX12_wantsAll rfl (by decide) rfl (wsl_44 _ (List.mem_of_getElem? (i := 16) rfl)) rfl dX12_follows_110 rfl ?_
  refine r_iinc (k := 2) (v := l2) dX12_follows_113 rfl (by decide) (lv' := [(2, (0, w32 (l2 + 1))), (0, (22, a0)), (1, (0, a1))]) rfl ?_
  refine r_goto dX12_follows_116 (tgt := 2) (by decide) ?_
  refine r_sub [1, 2, 0] (lv' := [(0, (22, a0)), (1, (0, a1)), (2, (0, w32 (l2 + 1)))]) rfl ?_
  obtain rfl := Option.some.inj hr
  exact k1 _ _ hk
set_option maxRecDepth 100000 in
set_option maxHeartbeats 4000000 in
theorem oX12_follows_b49 {a0 a1 l2 s0 : Int} {K : (hH × Int) ⊕ (hH) → Prop} (k0 : ∀ r, K (.inr (r)) → x = (none, r)) (k1 : ∀ (h : hH) (l2 : Int), K (.inl (h, l2)) → Wq p l e R s m args below meth c D G A H0 true n0 M_X12_follows x 0 0 2 [(0, (22, a0)), (1, (0, a1)), (2, (0, l2))] [] h) {r : (hH × Int) ⊕ (hH)} (hr : fX12_follows_b49 h a0 a1 l2 s0 = some r) (hk : K r) : Wq p l e R s m args below meth c D G A H0 true n0 M_X12_follows x 0 0 49 [(0, (22, a0)), (1, (0, a1)), (2, (0, l2))] [(0, s0)] h := by
  unfold fX12_follows_b49 at hr
  refine r_istore_n dX12_follows_49 rfl (Or.inl rfl) (by decide) (lv' := [(3, (0, s0)), (0, (22, a0)), (1, (0, a1)), (2, (0, l2))]) rfl ?_
  refine r_iload_n dX12_follows_50 rfl 0 rfl (Or.inl rfl) ?_
  refine r_if_ge dX12_follows_51 (tgt := 57) (by decide) (fun hc => ?_) (fun hc => ?_)
  · have hr := ifn hr hc
    refine r_aload_n dX12_follows_57 rfl 1 rfl (nl rfl) ?_
    refine r_get 12 29 (o := a0) (w := (50, h a0 29)) (T := TX12) (ref := "FollowingRefsModel") rfl (by decide) rfl (by decide) inlX12 (wsl_7 _ (List.mem_of_getElem? (i := 19) rfl)) rfl dX12_follows_58 rfl ?_
    refine r_iload_n dX12_follows_61 rfl 0 rfl (Or.inl rfl) ?_
    obtain ⟨v62, hg62, hr⟩ := bnd hr
    refine r_iald dX12_follows_62 hg62 ?_
    refine r_if_ge dX12_follows_63 (tgt := 76) (by decide) (fun hc => ?_) (fun hc => ?_)
    · have hr := ifn hr hc
      refine r_aload_n dX12_follows_76 rfl 1 rfl (nl rfl) ?_
      refine r_get 12 6 (o := a0) (w := (50, h a0 6)) (T := TX12) (ref := "FollowingRefsModel") rfl (by decide) rfl (by decide) inlX12 (wsl_7 _ (List.mem_of_getElem? (i := 8) rfl)) rfl dX12_follows_77 rfl ?_
      refine r_bipush dX12_follows_80 (by decide) (by decide) ?_
      refine r_iload_n dX12_follows_82 rfl 3 rfl (Or.inl rfl) ?_
      refine r_iadd dX12_follows_83 ?_
      obtain ⟨v84, hg84, hr⟩ := bnd hr
      refine r_iald dX12_follows_84 hg84 ?_
      refine r_iconst dX12_follows_85 (by decide) ?_
      refine r_icmp_le dX12_follows_86 (tgt := 113) (by decide) (fun hc => ?_) (fun hc => ?_)
      · have hr := ifn hr hc
        refine r_iinc (k := 3) (v := l2) dX12_follows_113 rfl (by decide) (lv' := [(2, (0, w32 (l2 + 1))), (3, (0, s0)), (0, (22, a0)), (1, (0, a1))]) rfl ?_
        refine r_goto dX12_follows_116 (tgt := 2) (by decide) ?_
        refine r_sub [2, 3, 0] (lv' := [(0, (22, a0)), (1, (0, a1)), (2, (0, w32 (l2 + 1)))]) rfl ?_
        obtain rfl := Option.some.inj hr
        exact k1 _ _ hk
      · have hr := ifp hr hc
        refine r_aload_n dX12_follows_89 rfl 1 rfl (nl rfl) ?_
        refine r_iload_n dX12_follows_90 rfl 2 rfl (Or.inl rfl) ?_
        refine r_iload_n dX12_follows_91 rfl 3 rfl (Or.inl rfl) ?_
        refine r_aload_n dX12_follows_92 rfl 1 rfl (nl rfl) ?_
        refine r_get 12 6 (o := a0) (w := (50, h a0 6)) (T := TX12) (ref := "FollowingRefsModel") rfl (by decide) rfl (by decide) inlX12 (wsl_7 _ (List.mem_of_getElem? (i := 8) rfl)) rfl dX12_follows_93 rfl ?_
        refine r_bipush dX12_follows_96 (by decide) (by decide) ?_
        refine r_iload_n dX12_follows_98 rfl 3 rfl (Or.inl rfl) ?_
        refine r_iadd dX12_follows_99 ?_
        obtain ⟨v100, hg100, hr⟩ := bnd hr
        refine r_iald dX12_follows_100 hg100 ?_
        refine r_iconst dX12_follows_101 (by decide) ?_
        refine r_icmp_ne dX12_follows_102 (tgt := 109) (by decide) (fun hc => ?_) (fun hc => ?_)
        · have hr := ifn hr hc
          refine r_iconst dX12_follows_109 (by decide) ?_
          refine r_sub [1, 2, 3] (lv' := [(0, (22, a0)), (1, (0, a1)), (2, (0, l2))]) rfl ?_
          refine r_scast 0 (v := (0, 0)) (w := (2, 0)) rfl cz (fun _ => Or.inl rfl) (st' := [(2, 0), (0, l2), (0, a1), (22, a0)]) rfl ?_
          exact oX12_follows_b110 (K := K) (fun r z => k0 r z) (fun _ _ z => k1 _ _ z) hr hk
        · have hr := ifp hr hc
          refine r_iconst dX12_follows_105 (by decide) ?_
          refine r_goto dX12_follows_106 (tgt := 110) (by decide) ?_
          refine r_sub [1, 2, 3] (lv' := [(0, (22, a0)), (1, (0, a1)), (2, (0, l2))]) rfl ?_
          refine r_scast 0 (v := (0, 1)) (w := (2, 1)) rfl cz (fun _ => Or.inr rfl) (st' := [(2, 1), (0, l2), (0, a1), (22, a0)]) rfl ?_
          exact oX12_follows_b110 (K := K) (fun r z => k0 r z) (fun _ _ z => k1 _ _ z) hr hk
    · have hr := ifp hr hc
      refine r_aload_n dX12_follows_66 rfl 1 rfl (nl rfl) ?_
      refine r_iload_n dX12_follows_67 rfl 2 rfl (Or.inl rfl) ?_
      refine r_iload_n dX12_follows_68 rfl 3 rfl (Or.inl rfl) ?_
      refine r_iload_n dX12_follows_69 rfl 0 rfl (Or.inl rfl) ?_
      obtain ⟨h70, hg70, hr⟩ := bnd hr
      refine k_V (ci := 12) (o := a0) (T := TX12) (as := [(0, a1), (0, l2), (0, s0)]) (rest := []) (X := (none, h70)) (oX12_followsKey hg70) gX12_followsKey rfl (by decide) rfl (wsl_44 _ (List.mem_of_getElem? (i := 4) rfl)) rfl dX12_follows_70 rfl ?_
      refine r_goto dX12_follows_73 (tgt := 113) (by decide) ?_
      refine r_iinc (k := 3) (v := l2) dX12_follows_113 rfl (by decide) (lv' := [(2, (0, w32 (l2 + 1))), (3, (0, s0)), (0, (22, a0)), (1, (0, a1))]) rfl ?_
      refine r_goto dX12_follows_116 (tgt := 2) (by decide) ?_
      refine r_sub [2, 3, 0] (lv' := [(0, (22, a0)), (1, (0, a1)), (2, (0, w32 (l2 + 1)))]) rfl ?_
      obtain rfl := Option.some.inj hr
      exact k1 _ _ hk
  · have hr := ifp hr hc
    refine r_goto dX12_follows_54 (tgt := 113) (by decide) ?_
    refine r_iinc (k := 3) (v := l2) dX12_follows_113 rfl (by decide) (lv' := [(2, (0, w32 (l2 + 1))), (3, (0, s0)), (0, (22, a0)), (1, (0, a1))]) rfl ?_
    refine r_goto dX12_follows_116 (tgt := 2) (by decide) ?_
    refine r_sub [2, 3, 0] (lv' := [(0, (22, a0)), (1, (0, a1)), (2, (0, w32 (l2 + 1)))]) rfl ?_
    obtain rfl := Option.some.inj hr
    exact k1 _ _ hk
set_option maxRecDepth 100000 in
set_option maxHeartbeats 4000000 in
theorem oX12_follows_s2 {h0 : hH} {a0 a1 l2 : Int} {K : (hH × Int) ⊕ (hH) → Prop} (k0 : ∀ r, K (.inr (r)) → x = (none, r)) (k1 : ∀ (h : hH) (l2 : Int), K (.inl (h, l2)) → Wq p l e R s m args below meth c D G A H0 true n0 M_X12_follows x 0 0 2 [(0, (22, a0)), (1, (0, a1)), (2, (0, l2))] [] h) {r : (hH × Int) ⊕ (hH)} (hr : fX12_follows_s2 h0 a0 a1 (h, l2) = some r) (hk : K r) : Wq p l e R s m args below meth c D G A H0 true n0 M_X12_follows x 0 0 2 [(0, (22, a0)), (1, (0, a1)), (2, (0, l2))] [] h := by
  unfold fX12_follows_s2 at hr
  refine r_iload_n dX12_follows_2 rfl 2 rfl (Or.inl rfl) ?_
  refine r_aload_n dX12_follows_3 rfl 0 rfl (nl rfl) ?_
  refine r_get 12 6 (o := a0) (w := (50, h a0 6)) (T := TX12) (ref := "FollowingRefsModel") rfl (by decide) rfl (by decide) inlX12 (wsl_7 _ (List.mem_of_getElem? (i := 8) rfl)) rfl dX12_follows_4 rfl ?_
  refine r_iconst dX12_follows_7 (by decide) ?_
  obtain ⟨v8, hg8, hr⟩ := bnd hr
  refine r_iald dX12_follows_8 hg8 ?_
  refine r_icmp_ge dX12_follows_9 (tgt := 119) (by decide) (fun hc => ?_) (fun hc => ?_)
  · have hr := ifn hr hc
    obtain rfl := Option.some.inj hr
    exact r_vret dX12_follows_119 rfl (k0 _ hk) ⟨rfl, rfl⟩
  · have hr := ifp hr hc
    refine r_aload_n dX12_follows_12 rfl 0 rfl (nl rfl) ?_
    refine r_get 12 6 (o := a0) (w := (50, h a0 6)) (T := TX12) (ref := "FollowingRefsModel") rfl (by decide) rfl (by decide) inlX12 (wsl_7 _ (List.mem_of_getElem? (i := 8) rfl)) rfl dX12_follows_13 rfl ?_
    refine r_bipush dX12_follows_16 (by decide) (by decide) ?_
    refine r_iload_n dX12_follows_18 rfl 2 rfl (Or.inl rfl) ?_
    refine r_iadd dX12_follows_19 ?_
    obtain ⟨v20, hg20, hr⟩ := bnd hr
    refine r_iald dX12_follows_20 hg20 ?_
    refine r_aload_n dX12_follows_21 rfl 0 rfl (nl rfl) ?_
    refine r_get 12 6 (o := a0) (w := (50, h a0 6)) (T := TX12) (ref := "FollowingRefsModel") rfl (by decide) rfl (by decide) inlX12 (wsl_7 _ (List.mem_of_getElem? (i := 8) rfl)) rfl dX12_follows_22 rfl ?_
    refine r_sipush dX12_follows_25 (by decide) (by decide) ?_
    refine r_iload_n dX12_follows_28 rfl 1 rfl (Or.inl rfl) ?_
    refine r_iadd dX12_follows_29 ?_
    obtain ⟨v30, hg30, hr⟩ := bnd hr
    refine r_iald dX12_follows_30 hg30 ?_
    refine r_icmp_ne dX12_follows_31 (tgt := 48) (by decide) (fun hc => ?_) (fun hc => ?_)
    · have hr := ifn hr hc
      refine r_iconst dX12_follows_48 (by decide) ?_
      exact oX12_follows_b49 (K := K) (fun r z => k0 r z) (fun _ _ z => k1 _ _ z) hr hk
    · have hr := ifp hr hc
      refine r_aload_n dX12_follows_34 rfl 0 rfl (nl rfl) ?_
      refine r_get 12 28 (o := a0) (w := (50, h a0 28)) (T := TX12) (ref := "FollowingRefsModel") rfl (by decide) rfl (by decide) inlX12 (wsl_7 _ (List.mem_of_getElem? (i := 18) rfl)) rfl dX12_follows_35 rfl ?_
      refine r_bipush dX12_follows_38 (by decide) (by decide) ?_
      refine r_iload_n dX12_follows_40 rfl 1 rfl (Or.inl rfl) ?_
      refine r_imul dX12_follows_41 ?_
      refine r_iload_n dX12_follows_42 rfl 2 rfl (Or.inl rfl) ?_
      refine r_iadd dX12_follows_43 ?_
      obtain ⟨v44, hg44, hr⟩ := bnd hr
      refine r_iald dX12_follows_44 hg44 ?_
      refine r_goto dX12_follows_45 (tgt := 49) (by decide) ?_
      exact oX12_follows_b49 (K := K) (fun r z => k0 r z) (fun _ _ z => k1 _ _ z) hr hk
set_option maxRecDepth 100000 in
set_option maxHeartbeats 4000000 in
theorem oX12_follows_b0 {a0 a1 : Int} {K : hH → Prop} (k0 : ∀ r, K (r) → x = (none, r)) {r : hH} (hr : fX12_follows h a0 a1 = some r) (hk : K r) : Wq p l e R s m args below meth c D G A H0 true n0 M_X12_follows x 0 0 0 [(0, (22, a0)), (1, (0, a1))] [] h := by
  unfold fX12_follows at hr
  refine r_iconst dX12_follows_0 (by decide) ?_
  refine r_istore_n dX12_follows_1 rfl (Or.inl rfl) (by decide) (lv' := [(2, (0, 0)), (0, (22, a0)), (1, (0, a1))]) rfl ?_
  refine r_sub [1, 2, 0] (lv' := [(0, (22, a0)), (1, (0, a1)), (2, (0, 0))]) rfl ?_
  exact lp_ok (w := fun (q : hH × Int) => Wq p l e R s m args below meth c D G A H0 true n0 M_X12_follows x 0 0 2 [(0, (22, a0)), (1, (0, a1)), (2, (0, q.2))] [] (q.1)) (K := K) (fun ⟨q0, q1⟩ r h1 h2 => oX12_follows_s2 (K := Sum.elim (fun (q : hH × Int) => Wq p l e R s m args below meth c D G A H0 true n0 M_X12_follows x 0 0 2 [(0, (22, a0)), (1, (0, a1)), (2, (0, q.2))] [] (q.1)) (K)) (fun r z => k0 r z) (fun _ _ z => z) h1 h2) hr hk
end M_X12_follows
theorem oX12_follows {l : Launch} {D : va_G} {G : gG} {h : hH} {a0 a1 : Int} {r : hH} (hr : fX12_follows h a0 a1 = some r) : Ctr l D G true yX12_follows M_X12_follows [(22, a0), (0, a1)] h (none, r) :=
  Ctr_of (by decide) rfl (fun z => by cases z) (nl rfl) (fun {p e R s m args below meth c A H0} => by
    exact oX12_follows_b0 (K := fun z9 => z9 = r) (fun r9 z => by rw [z]) hr rfl)
/-! X12_closes -/
theorem dX12_closes_0 : decode cX12_closes 0 = .ok (.iconst 1, 1) := by decide +kernel
theorem dX12_closes_1 : decode cX12_closes 1 = .ok (.istore_n 1, 1) := by decide +kernel
theorem dX12_closes_2 : decode cX12_closes 2 = .ok (.iconst 1, 1) := by decide +kernel
theorem dX12_closes_3 : decode cX12_closes 3 = .ok (.istore_n 2, 1) := by decide +kernel
theorem dX12_closes_4 : decode cX12_closes 4 = .ok (.iload_n 1, 1) := by decide +kernel
theorem dX12_closes_5 : decode cX12_closes 5 = .ok (.ifCond .eq 179, 3) := by decide +kernel
theorem dX12_closes_8 : decode cX12_closes 8 = .ok (.iconst 0, 1) := by decide +kernel
theorem dX12_closes_9 : decode cX12_closes 9 = .ok (.istore_n 1, 1) := by decide +kernel
theorem dX12_closes_10 : decode cX12_closes 10 = .ok (.iconst 0, 1) := by decide +kernel
theorem dX12_closes_11 : decode cX12_closes 11 = .ok (.istore_n 3, 1) := by decide +kernel
theorem dX12_closes_12 : decode cX12_closes 12 = .ok (.iload_n 3, 1) := by decide +kernel
theorem dX12_closes_13 : decode cX12_closes 13 = .ok (.bipush 99, 2) := by decide +kernel
theorem dX12_closes_15 : decode cX12_closes 15 = .ok (.if_icmp .ge 163, 3) := by decide +kernel
theorem dX12_closes_18 : decode cX12_closes 18 = .ok (.aload_n 0, 1) := by decide +kernel
theorem dX12_closes_19 : decode cX12_closes 19 = .ok (.getfield 33, 3) := by decide +kernel
theorem dX12_closes_22 : decode cX12_closes 22 = .ok (.sipush 150, 3) := by decide +kernel
theorem dX12_closes_25 : decode cX12_closes 25 = .ok (.iload_n 3, 1) := by decide +kernel
theorem dX12_closes_26 : decode cX12_closes 26 = .ok (.iadd, 1) := by decide +kernel
theorem dX12_closes_27 : decode cX12_closes 27 = .ok (.iaload, 1) := by decide +kernel
theorem dX12_closes_28 : decode cX12_closes 28 = .ok (.ifCond .eq 144, 3) := by decide +kernel
theorem dX12_closes_31 : decode cX12_closes 31 = .ok (.aload_n 0, 1) := by decide +kernel
theorem dX12_closes_32 : decode cX12_closes 32 = .ok (.getfield 68, 3) := by decide +kernel
theorem dX12_closes_35 : decode cX12_closes 35 = .ok (.iload_n 3, 1) := by decide +kernel
theorem dX12_closes_36 : decode cX12_closes 36 = .ok (.iaload, 1) := by decide +kernel
theorem dX12_closes_37 : decode cX12_closes 37 = .ok (.ifCond .lt 6, 3) := by decide +kernel
theorem dX12_closes_40 : decode cX12_closes 40 = .ok (.goto 132, 3) := by decide +kernel
theorem dX12_closes_43 : decode cX12_closes 43 = .ok (.iconst 0, 1) := by decide +kernel
theorem dX12_closes_44 : decode cX12_closes 44 = .ok (.istore 4, 2) := by decide +kernel
theorem dX12_closes_46 : decode cX12_closes 46 = .ok (.iconst 0, 1) := by decide +kernel
theorem dX12_closes_47 : decode cX12_closes 47 = .ok (.istore 5, 2) := by decide +kernel
theorem dX12_closes_49 : decode cX12_closes 49 = .ok (.iload 5, 2) := by decide +kernel
theorem dX12_closes_51 : decode cX12_closes 51 = .ok (.aload_n 0, 1) := by decide +kernel
theorem dX12_closes_52 : decode cX12_closes 52 = .ok (.getfield 33, 3) := by decide +kernel
theorem dX12_closes_55 : decode cX12_closes 55 = .ok (.iconst 2, 1) := by decide +kernel
theorem dX12_closes_56 : decode cX12_closes 56 = .ok (.iaload, 1) := by decide +kernel
theorem dX12_closes_57 : decode cX12_closes 57 = .ok (.if_icmp .ge 98, 3) := by decide +kernel
theorem dX12_closes_60 : decode cX12_closes 60 = .ok (.aload_n 0, 1) := by decide +kernel
theorem dX12_closes_61 : decode cX12_closes 61 = .ok (.getfield 33, 3) := by decide +kernel
theorem dX12_closes_64 : decode cX12_closes 64 = .ok (.bipush 58, 2) := by decide +kernel
theorem dX12_closes_66 : decode cX12_closes 66 = .ok (.iload 5, 2) := by decide +kernel
theorem dX12_closes_68 : decode cX12_closes 68 = .ok (.iadd, 1) := by decide +kernel
theorem dX12_closes_69 : decode cX12_closes 69 = .ok (.iaload, 1) := by decide +kernel
theorem dX12_closes_70 : decode cX12_closes 70 = .ok (.aload_n 0, 1) := by decide +kernel
theorem dX12_closes_71 : decode cX12_closes 71 = .ok (.getfield 33, 3) := by decide +kernel
theorem dX12_closes_74 : decode cX12_closes 74 = .ok (.sipush 249, 3) := by decide +kernel
theorem dX12_closes_77 : decode cX12_closes 77 = .ok (.iload_n 3, 1) := by decide +kernel
theorem dX12_closes_78 : decode cX12_closes 78 = .ok (.iadd, 1) := by decide +kernel
theorem dX12_closes_79 : decode cX12_closes 79 = .ok (.iaload, 1) := by decide +kernel
theorem dX12_closes_80 : decode cX12_closes 80 = .ok (.if_icmp .ne 32, 3) := by decide +kernel
theorem dX12_closes_83 : decode cX12_closes 83 = .ok (.aload_n 0, 1) := by decide +kernel
theorem dX12_closes_84 : decode cX12_closes 84 = .ok (.getfield 33, 3) := by decide +kernel
theorem dX12_closes_87 : decode cX12_closes 87 = .ok (.bipush 88, 2) := by decide +kernel
theorem dX12_closes_89 : decode cX12_closes 89 = .ok (.iload 5, 2) := by decide +kernel
theorem dX12_closes_91 : decode cX12_closes 91 = .ok (.iadd, 1) := by decide +kernel
theorem dX12_closes_92 : decode cX12_closes 92 = .ok (.iaload, 1) := by decide +kernel
theorem dX12_closes_93 : decode cX12_closes 93 = .ok (.iconst 1, 1) := by decide +kernel
theorem dX12_closes_94 : decode cX12_closes 94 = .ok (.if_icmp .ne 18, 3) := by decide +kernel
theorem dX12_closes_97 : decode cX12_closes 97 = .ok (.aload_n 0, 1) := by decide +kernel
theorem dX12_closes_98 : decode cX12_closes 98 = .ok (.getfield 65, 3) := by decide +kernel
theorem dX12_closes_101 : decode cX12_closes 101 = .ok (.bipush 6, 2) := by decide +kernel
theorem dX12_closes_103 : decode cX12_closes 103 = .ok (.iload_n 3, 1) := by decide +kernel
theorem dX12_closes_104 : decode cX12_closes 104 = .ok (.imul, 1) := by decide +kernel
theorem dX12_closes_105 : decode cX12_closes 105 = .ok (.iload 5, 2) := by decide +kernel
theorem dX12_closes_107 : decode cX12_closes 107 = .ok (.iadd, 1) := by decide +kernel
theorem dX12_closes_108 : decode cX12_closes 108 = .ok (.iaload, 1) := by decide +kernel
theorem dX12_closes_109 : decode cX12_closes 109 = .ok (.goto 4, 3) := by decide +kernel
theorem dX12_closes_112 : decode cX12_closes 112 = .ok (.iconst (-1), 1) := by decide +kernel
theorem dX12_closes_113 : decode cX12_closes 113 = .ok (.istore 6, 2) := by decide +kernel
theorem dX12_closes_115 : decode cX12_closes 115 = .ok (.iload 4, 2) := by decide +kernel
theorem dX12_closes_117 : decode cX12_closes 117 = .ok (.ifCond .ne 25, 3) := by decide +kernel
theorem dX12_closes_120 : decode cX12_closes 120 = .ok (.iload 6, 2) := by decide +kernel
theorem dX12_closes_122 : decode cX12_closes 122 = .ok (.ifCond .lt 24, 3) := by decide +kernel
theorem dX12_closes_125 : decode cX12_closes 125 = .ok (.aload_n 0, 1) := by decide +kernel
theorem dX12_closes_126 : decode cX12_closes 126 = .ok (.getfield 68, 3) := by decide +kernel
theorem dX12_closes_129 : decode cX12_closes 129 = .ok (.iload 6, 2) := by decide +kernel
theorem dX12_closes_131 : decode cX12_closes 131 = .ok (.iaload, 1) := by decide +kernel
theorem dX12_closes_132 : decode cX12_closes 132 = .ok (.iconst 0, 1) := by decide +kernel
theorem dX12_closes_133 : decode cX12_closes 133 = .ok (.iload_n 2, 1) := by decide +kernel
theorem dX12_closes_134 : decode cX12_closes 134 = .ok (.iconst 1, 1) := by decide +kernel
theorem dX12_closes_135 : decode cX12_closes 135 = .ok (.isub, 1) := by decide +kernel
theorem dX12_closes_136 : decode cX12_closes 136 = .ok (.invokestatic 229, 3) := by decide +kernel
theorem dX12_closes_139 : decode cX12_closes 139 = .ok (.ifCond .eq 7, 3) := by decide +kernel
theorem dX12_closes_142 : decode cX12_closes 142 = .ok (.iconst 1, 1) := by decide +kernel
theorem dX12_closes_143 : decode cX12_closes 143 = .ok (.goto 4, 3) := by decide +kernel
theorem dX12_closes_146 : decode cX12_closes 146 = .ok (.iconst 0, 1) := by decide +kernel
theorem dX12_closes_147 : decode cX12_closes 147 = .ok (.istore 4, 2) := by decide +kernel
theorem dX12_closes_149 : decode cX12_closes 149 = .ok (.iinc 5 1, 3) := by decide +kernel
theorem dX12_closes_152 : decode cX12_closes 152 = .ok (.goto (-103), 3) := by decide +kernel
theorem dX12_closes_155 : decode cX12_closes 155 = .ok (.iload 4, 2) := by decide +kernel
theorem dX12_closes_157 : decode cX12_closes 157 = .ok (.ifCond .ne 6, 3) := by decide +kernel
theorem dX12_closes_160 : decode cX12_closes 160 = .ok (.goto 12, 3) := by decide +kernel
theorem dX12_closes_163 : decode cX12_closes 163 = .ok (.aload_n 0, 1) := by decide +kernel
theorem dX12_closes_164 : decode cX12_closes 164 = .ok (.getfield 68, 3) := by decide +kernel
theorem dX12_closes_167 : decode cX12_closes 167 = .ok (.iload_n 3, 1) := by decide +kernel
theorem dX12_closes_168 : decode cX12_closes 168 = .ok (.iload_n 2, 1) := by decide +kernel
theorem dX12_closes_169 : decode cX12_closes 169 = .ok (.iastore, 1) := by decide +kernel
theorem dX12_closes_170 : decode cX12_closes 170 = .ok (.iconst 1, 1) := by decide +kernel
theorem dX12_closes_171 : decode cX12_closes 171 = .ok (.istore_n 1, 1) := by decide +kernel
theorem dX12_closes_172 : decode cX12_closes 172 = .ok (.iinc 3 1, 3) := by decide +kernel
theorem dX12_closes_175 : decode cX12_closes 175 = .ok (.goto (-163), 3) := by decide +kernel
theorem dX12_closes_178 : decode cX12_closes 178 = .ok (.iinc 2 1, 3) := by decide +kernel
theorem dX12_closes_181 : decode cX12_closes 181 = .ok (.goto (-177), 3) := by decide +kernel
theorem dX12_closes_184 : decode cX12_closes 184 = .ok (.return_, 1) := by decide +kernel
abbrev M_X12_closes : mM := (cX12_closes, 7, RX12, none, false, 1, 22, 0, 0)
theorem gX12_closes : cI yX12_closes M_X12_closes 0 := ⟨(wsl_43 _ (List.mem_of_getElem? (i := 21) rfl)), (wsl_43 _ (List.mem_of_getElem? (i := 22) rfl)), (wsl_1 _ (List.mem_of_getElem? (i := 5) rfl)), (wsl_43 _ (List.mem_of_getElem? (i := 23) rfl)), by decide +kernel⟩
noncomputable def fX12_closes_b142 (h : hH) (a0 l1 l2 l3 l5 : Int) : Option ((Int × Int) ⊕ ((hH × Int × Int) ⊕ ((hH × Int × Int) ⊕ (hH)))) :=
  some (.inl (1, w32 (l5 + 1)))
noncomputable def fX12_closes_b113 (h : hH) (a0 l1 l2 l3 l4 l5 s0 : Int) : Option ((Int × Int) ⊕ ((hH × Int × Int) ⊕ ((hH × Int × Int) ⊕ (hH)))) :=
  if l4 = 0 then
    if s0 < 0 then
      some (.inl (0, w32 (l5 + 1)))
    else
      (aget h (h a0 29) s0).bind fun v131 =>
      (fX12_isIn h v131 0 (w32 (l2 - 1))).bind fun r136 =>
      if r136 = 0 then
        some (.inl (0, w32 (l5 + 1)))
      else
        fX12_closes_b142 h a0 l1 l2 l3 l5
  else
    fX12_closes_b142 h a0 l1 l2 l3 l5
noncomputable def fX12_closes_b112 (h : hH) (a0 l1 l2 l3 l4 l5 : Int) : Option ((Int × Int) ⊕ ((hH × Int × Int) ⊕ ((hH × Int × Int) ⊕ (hH)))) :=
  fX12_closes_b113 h a0 l1 l2 l3 l4 l5 (-1)
noncomputable def fX12_closes_s49 (h : hH) (a0 l1 l2 l3 : Int) : Int × Int → Option ((Int × Int) ⊕ ((hH × Int × Int) ⊕ ((hH × Int × Int) ⊕ (hH)))) := fun (l4, l5) =>
  (aget h (h a0 6) 2).bind fun v56 =>
  if l5 < v56 then
    (aget h (h a0 6) (w32 (58 + l5))).bind fun v69 =>
    (aget h (h a0 6) (w32 (249 + l3))).bind fun v79 =>
    if v69 = v79 then
      (aget h (h a0 6) (w32 (88 + l5))).bind fun v92 =>
      if v92 = 1 then
        (aget h (h a0 28) (w32 ((w32 (6 * l3)) + l5))).bind fun v108 =>
        fX12_closes_b113 h a0 l1 l2 l3 l4 l5 v108
      else
        fX12_closes_b112 h a0 l1 l2 l3 l4 l5
    else
      fX12_closes_b112 h a0 l1 l2 l3 l4 l5
  else
    if l4 = 0 then
      some (.inr (.inl (h, l1, w32 (l3 + 1))))
    else
      (aput h (h a0 29) l3 l2).bind fun h169 =>
      some (.inr (.inl (h169, 1, w32 (l3 + 1))))
noncomputable def fX12_closes_s12 (h0 : hH) (a0 l2 : Int) : hH × Int × Int → Option ((hH × Int × Int) ⊕ ((hH × Int × Int) ⊕ (hH))) := fun (h, l1, l3) =>
  if l3 < 99 then
    (aget h (h a0 6) (w32 (150 + l3))).bind fun v27 =>
    if v27 = 0 then
      some (.inl (h, l1, w32 (l3 + 1)))
    else
      (aget h (h a0 29) l3).bind fun v36 =>
      if v36 < 0 then
        lpO (fX12_closes_s49 h a0 l1 l2 l3) (0, 0)
      else
        some (.inl (h, l1, w32 (l3 + 1)))
  else
    some (.inr (.inl (h, l1, w32 (l2 + 1))))
noncomputable def fX12_closes_s4 (h0 : hH) (a0 : Int) : hH × Int × Int → Option ((hH × Int × Int) ⊕ (hH)) := fun (h, l1, l2) =>
  if l1 = 0 then
    some (.inr (h))
  else
    lpO (fX12_closes_s12 h a0 l2) (h, 0, 0)
noncomputable def fX12_closes (h : hH) (a0 : Int) : Option (hH) :=
  lpO (fX12_closes_s4 h a0) (h, 1, 1)
section M_X12_closes
variable {p : Program} {l : Launch} {e : Env} {R : Room} {s : State} {m : MethodId} {args : Array Value} {below : List Frame} {meth : Method} {c : Code} {D : va_G} {G : gG} {A : Nat → Prop} {H0 : Heap} {n0 : Int} {x : Option vV × hH} {h : hH}
set_option maxRecDepth 100000 in
set_option maxHeartbeats 4000000 in
theorem oX12_closes_b142 {a0 l1 l2 l3 l5 : Int} {K : (Int × Int) ⊕ ((hH × Int × Int) ⊕ ((hH × Int × Int) ⊕ (hH))) → Prop} (k0 : ∀ r, K (.inr (.inr (.inr (r)))) → x = (none, r)) (k1 : ∀ (h : hH) (l1 : Int) (l2 : Int), K (.inr (.inr (.inl (h, l1, l2)))) → Wq p l e R s m args below meth c D G A H0 true n0 M_X12_closes x 0 0 4 [(0, (22, a0)), (1, (2, l1)), (2, (0, l2))] [] h) (k2 : ∀ (h : hH) (l1 : Int) (l3 : Int), K (.inr (.inl (h, l1, l3))) → Wq p l e R s m args below meth c D G A H0 true n0 M_X12_closes x 0 0 12 [(0, (22, a0)), (1, (2, l1)), (2, (0, l2)), (3, (0, l3))] [] h) (k3 : ∀ (l4 : Int) (l5 : Int), K (.inl (l4, l5)) → Wq p l e R s m args below meth c D G A H0 true n0 M_X12_closes x 0 0 49 [(0, (22, a0)), (1, (2, l1)), (2, (0, l2)), (3, (0, l3)), (4, (2, l4)), (5, (0, l5))] [] h) {r : (Int × Int) ⊕ ((hH × Int × Int) ⊕ ((hH × Int × Int) ⊕ (hH)))} (hr : fX12_closes_b142 h a0 l1 l2 l3 l5 = some r) (hk : K r) : Wq p l e R s m args below meth c D G A H0 true n0 M_X12_closes x 0 0 142 [(0, (22, a0)), (1, (2, l1)), (2, (0, l2)), (3, (0, l3)), (5, (0, l5))] [] h := by
  unfold fX12_closes_b142 at hr
  refine r_iconst dX12_closes_142 (by decide) ?_
  refine r_goto dX12_closes_143 (tgt := 147) (by decide) ?_
  refine r_istore dX12_closes_147 (Or.inl rfl) (by decide) (lv' := [(4, (0, 1)), (0, (22, a0)), (1, (2, l1)), (2, (0, l2)), (3, (0, l3)), (5, (0, l5))]) rfl ?_
  refine r_iinc (k := 5) (v := l5) dX12_closes_149 rfl (by decide) (lv' := [(5, (0, w32 (l5 + 1))), (4, (0, 1)), (0, (22, a0)), (1, (2, l1)), (2, (0, l2)), (3, (0, l3))]) rfl ?_
  refine r_goto dX12_closes_152 (tgt := 49) (by decide) ?_
  refine r_lcast 1 (v := (0, 1)) (w := (2, 1)) rfl cz (fun _ => Or.inr rfl) (lv' := [(5, (0, w32 (l5 + 1))), (4, (2, 1)), (0, (22, a0)), (1, (2, l1)), (2, (0, l2)), (3, (0, l3))]) rfl ?_
  refine r_sub [2, 3, 4, 5, 1, 0] (lv' := [(0, (22, a0)), (1, (2, l1)), (2, (0, l2)), (3, (0, l3)), (4, (2, 1)), (5, (0, w32 (l5 + 1)))]) rfl ?_
  obtain rfl := Option.some.inj hr
  exact k3 _ _ hk
set_option maxRecDepth 100000 in
set_option maxHeartbeats 4000000 in
theorem oX12_closes_b113 {a0 l1 l2 l3 l4 l5 s0 : Int} {K : (Int × Int) ⊕ ((hH × Int × Int) ⊕ ((hH × Int × Int) ⊕ (hH))) → Prop} (k0 : ∀ r, K (.inr (.inr (.inr (r)))) → x = (none, r)) (k1 : ∀ (h : hH) (l1 : Int) (l2 : Int), K (.inr (.inr (.inl (h, l1, l2)))) → Wq p l e R s m args below meth c D G A H0 true n0 M_X12_closes x 0 0 4 [(0, (22, a0)), (1, (2, l1)), (2, (0, l2))] [] h) (k2 : ∀ (h : hH) (l1 : Int) (l3 : Int), K (.inr (.inl (h, l1, l3))) → Wq p l e R s m args below meth c D G A H0 true n0 M_X12_closes x 0 0 12 [(0, (22, a0)), (1, (2, l1)), (2, (0, l2)), (3, (0, l3))] [] h) (k3 : ∀ (l4 : Int) (l5 : Int), K (.inl (l4, l5)) → Wq p l e R s m args below meth c D G A H0 true n0 M_X12_closes x 0 0 49 [(0, (22, a0)), (1, (2, l1)), (2, (0, l2)), (3, (0, l3)), (4, (2, l4)), (5, (0, l5))] [] h) {r : (Int × Int) ⊕ ((hH × Int × Int) ⊕ ((hH × Int × Int) ⊕ (hH)))} (hr : fX12_closes_b113 h a0 l1 l2 l3 l4 l5 s0 = some r) (hk : K r) : Wq p l e R s m args below meth c D G A H0 true n0 M_X12_closes x 0 0 113 [(0, (22, a0)), (1, (2, l1)), (2, (0, l2)), (3, (0, l3)), (4, (2, l4)), (5, (0, l5))] [(0, s0)] h := by
  unfold fX12_closes_b113 at hr
  refine r_istore dX12_closes_113 (Or.inl rfl) (by decide) (lv' := [(6, (0, s0)), (0, (22, a0)), (1, (2, l1)), (2, (0, l2)), (3, (0, l3)), (4, (2, l4)), (5, (0, l5))]) rfl ?_
  refine r_iload dX12_closes_115 5 rfl (Or.inr rfl) ?_
  refine r_scast 0 (v := (2, l4)) (w := (0, l4)) rfl zc hTz (st' := [(0, l4)]) rfl ?_
  refine r_if_ne dX12_closes_117 (tgt := 142) (by decide) (fun hc => ?_) (fun hc => ?_)
  · have hr := ifn hr hc
    refine r_sub [1, 2, 3, 4, 6] (lv' := [(0, (22, a0)), (1, (2, l1)), (2, (0, l2)), (3, (0, l3)), (5, (0, l5))]) rfl ?_
    exact oX12_closes_b142 (K := K) (fun r z => k0 r z) (fun _ _ _ z => k1 _ _ _ z) (fun _ _ _ z => k2 _ _ _ z) (fun _ _ z => k3 _ _ z) hr hk
  · have hr := ifp hr hc
    refine r_iload dX12_closes_120 0 rfl (Or.inl rfl) ?_
    refine r_if_lt dX12_closes_122 (tgt := 146) (by decide) (fun hc => ?_) (fun hc => ?_)
    · have hr := ifp hr hc
      refine r_iconst dX12_closes_146 (by decide) ?_
      refine r_istore dX12_closes_147 (Or.inl rfl) (by decide) (lv' := [(4, (0, 0)), (6, (0, s0)), (0, (22, a0)), (1, (2, l1)), (2, (0, l2)), (3, (0, l3)), (5, (0, l5))]) rfl ?_
      refine r_iinc (k := 6) (v := l5) dX12_closes_149 rfl (by decide) (lv' := [(5, (0, w32 (l5 + 1))), (4, (0, 0)), (6, (0, s0)), (0, (22, a0)), (1, (2, l1)), (2, (0, l2)), (3, (0, l3))]) rfl ?_
      refine r_goto dX12_closes_152 (tgt := 49) (by decide) ?_
      refine r_lcast 1 (v := (0, 0)) (w := (2, 0)) rfl cz (fun _ => Or.inl rfl) (lv' := [(5, (0, w32 (l5 + 1))), (4, (2, 0)), (6, (0, s0)), (0, (22, a0)), (1, (2, l1)), (2, (0, l2)), (3, (0, l3))]) rfl ?_
      refine r_sub [3, 4, 5, 6, 1, 0] (lv' := [(0, (22, a0)), (1, (2, l1)), (2, (0, l2)), (3, (0, l3)), (4, (2, 0)), (5, (0, w32 (l5 + 1)))]) rfl ?_
      obtain rfl := Option.some.inj hr
      exact k3 _ _ hk
    · have hr := ifn hr hc
      refine r_aload_n dX12_closes_125 rfl 1 rfl (nl rfl) ?_
      refine r_get 12 29 (o := a0) (w := (50, h a0 29)) (T := TX12) (ref := "FollowingRefsModel") rfl (by decide) rfl (by decide) inlX12 (wsl_7 _ (List.mem_of_getElem? (i := 19) rfl)) rfl dX12_closes_126 rfl ?_
      refine r_iload dX12_closes_129 0 rfl (Or.inl rfl) ?_
      obtain ⟨v131, hg131, hr⟩ := bnd hr
      refine r_iald dX12_closes_131 hg131 ?_
      refine r_iconst dX12_closes_132 (by decide) ?_
      refine r_iload_n dX12_closes_133 rfl 3 rfl (Or.inl rfl) ?_
      refine r_iconst dX12_closes_134 (by decide) ?_
      refine r_isub dX12_closes_135 ?_
      obtain ⟨r136, hg136, hr⟩ := bnd hr
      refine k_S (as := [(0, v131), (0, 0), (0, w32 (l2 - 1))]) (rest := []) (X := (some (2, r136), h)) (oX12_isIn hg136) gX12_isIn rfl (wsl_28 _ (List.mem_of_getElem? (i := 1) rfl)) rfl dX12_closes_136 rfl ?_
      refine r_scast 0 (v := (2, r136)) (w := (0, r136)) rfl zc hTz (st' := [(0, r136)]) rfl ?_
      refine r_if_eq dX12_closes_139 (tgt := 146) (by decide) (fun hc => ?_) (fun hc => ?_)
      · have hr := ifp hr hc
        refine r_iconst dX12_closes_146 (by decide) ?_
        refine r_istore dX12_closes_147 (Or.inl rfl) (by decide) (lv' := [(4, (0, 0)), (6, (0, s0)), (0, (22, a0)), (1, (2, l1)), (2, (0, l2)), (3, (0, l3)), (5, (0, l5))]) rfl ?_
        refine r_iinc (k := 6) (v := l5) dX12_closes_149 rfl (by decide) (lv' := [(5, (0, w32 (l5 + 1))), (4, (0, 0)), (6, (0, s0)), (0, (22, a0)), (1, (2, l1)), (2, (0, l2)), (3, (0, l3))]) rfl ?_
        refine r_goto dX12_closes_152 (tgt := 49) (by decide) ?_
        refine r_lcast 1 (v := (0, 0)) (w := (2, 0)) rfl cz (fun _ => Or.inl rfl) (lv' := [(5, (0, w32 (l5 + 1))), (4, (2, 0)), (6, (0, s0)), (0, (22, a0)), (1, (2, l1)), (2, (0, l2)), (3, (0, l3))]) rfl ?_
        refine r_sub [3, 4, 5, 6, 1, 0] (lv' := [(0, (22, a0)), (1, (2, l1)), (2, (0, l2)), (3, (0, l3)), (4, (2, 0)), (5, (0, w32 (l5 + 1)))]) rfl ?_
        obtain rfl := Option.some.inj hr
        exact k3 _ _ hk
      · have hr := ifn hr hc
        refine r_sub [1, 2, 3, 4, 6] (lv' := [(0, (22, a0)), (1, (2, l1)), (2, (0, l2)), (3, (0, l3)), (5, (0, l5))]) rfl ?_
        exact oX12_closes_b142 (K := K) (fun r z => k0 r z) (fun _ _ _ z => k1 _ _ _ z) (fun _ _ _ z => k2 _ _ _ z) (fun _ _ z => k3 _ _ z) hr hk
set_option maxRecDepth 100000 in
set_option maxHeartbeats 4000000 in
theorem oX12_closes_b112 {a0 l1 l2 l3 l4 l5 : Int} {K : (Int × Int) ⊕ ((hH × Int × Int) ⊕ ((hH × Int × Int) ⊕ (hH))) → Prop} (k0 : ∀ r, K (.inr (.inr (.inr (r)))) → x = (none, r)) (k1 : ∀ (h : hH) (l1 : Int) (l2 : Int), K (.inr (.inr (.inl (h, l1, l2)))) → Wq p l e R s m args below meth c D G A H0 true n0 M_X12_closes x 0 0 4 [(0, (22, a0)), (1, (2, l1)), (2, (0, l2))] [] h) (k2 : ∀ (h : hH) (l1 : Int) (l3 : Int), K (.inr (.inl (h, l1, l3))) → Wq p l e R s m args below meth c D G A H0 true n0 M_X12_closes x 0 0 12 [(0, (22, a0)), (1, (2, l1)), (2, (0, l2)), (3, (0, l3))] [] h) (k3 : ∀ (l4 : Int) (l5 : Int), K (.inl (l4, l5)) → Wq p l e R s m args below meth c D G A H0 true n0 M_X12_closes x 0 0 49 [(0, (22, a0)), (1, (2, l1)), (2, (0, l2)), (3, (0, l3)), (4, (2, l4)), (5, (0, l5))] [] h) {r : (Int × Int) ⊕ ((hH × Int × Int) ⊕ ((hH × Int × Int) ⊕ (hH)))} (hr : fX12_closes_b112 h a0 l1 l2 l3 l4 l5 = some r) (hk : K r) : Wq p l e R s m args below meth c D G A H0 true n0 M_X12_closes x 0 0 112 [(0, (22, a0)), (1, (2, l1)), (2, (0, l2)), (3, (0, l3)), (4, (2, l4)), (5, (0, l5))] [] h := by
  unfold fX12_closes_b112 at hr
  refine r_iconst dX12_closes_112 (by decide) ?_
  exact oX12_closes_b113 (K := K) (fun r z => k0 r z) (fun _ _ _ z => k1 _ _ _ z) (fun _ _ _ z => k2 _ _ _ z) (fun _ _ z => k3 _ _ z) hr hk
set_option maxRecDepth 100000 in
set_option maxHeartbeats 4000000 in
theorem oX12_closes_s49 {a0 l1 l2 l3 l4 l5 : Int} {K : (Int × Int) ⊕ ((hH × Int × Int) ⊕ ((hH × Int × Int) ⊕ (hH))) → Prop} (k0 : ∀ r, K (.inr (.inr (.inr (r)))) → x = (none, r)) (k1 : ∀ (h : hH) (l1 : Int) (l2 : Int), K (.inr (.inr (.inl (h, l1, l2)))) → Wq p l e R s m args below meth c D G A H0 true n0 M_X12_closes x 0 0 4 [(0, (22, a0)), (1, (2, l1)), (2, (0, l2))] [] h) (k2 : ∀ (h : hH) (l1 : Int) (l3 : Int), K (.inr (.inl (h, l1, l3))) → Wq p l e R s m args below meth c D G A H0 true n0 M_X12_closes x 0 0 12 [(0, (22, a0)), (1, (2, l1)), (2, (0, l2)), (3, (0, l3))] [] h) (k3 : ∀ (l4 : Int) (l5 : Int), K (.inl (l4, l5)) → Wq p l e R s m args below meth c D G A H0 true n0 M_X12_closes x 0 0 49 [(0, (22, a0)), (1, (2, l1)), (2, (0, l2)), (3, (0, l3)), (4, (2, l4)), (5, (0, l5))] [] h) {r : (Int × Int) ⊕ ((hH × Int × Int) ⊕ ((hH × Int × Int) ⊕ (hH)))} (hr : fX12_closes_s49 h a0 l1 l2 l3 (l4, l5) = some r) (hk : K r) : Wq p l e R s m args below meth c D G A H0 true n0 M_X12_closes x 0 0 49 [(0, (22, a0)), (1, (2, l1)), (2, (0, l2)), (3, (0, l3)), (4, (2, l4)), (5, (0, l5))] [] h := by
  unfold fX12_closes_s49 at hr
  refine r_iload dX12_closes_49 5 rfl (Or.inl rfl) ?_
  refine r_aload_n dX12_closes_51 rfl 0 rfl (nl rfl) ?_
  refine r_get 12 6 (o := a0) (w := (50, h a0 6)) (T := TX12) (ref := "FollowingRefsModel") rfl (by decide) rfl (by decide) inlX12 (wsl_7 _ (List.mem_of_getElem? (i := 8) rfl)) rfl dX12_closes_52 rfl ?_
  refine r_iconst dX12_closes_55 (by decide) ?_
  obtain ⟨v56, hg56, hr⟩ := bnd hr
  refine r_iald dX12_closes_56 hg56 ?_
  refine r_icmp_ge dX12_closes_57 (tgt := 155) (by decide) (fun hc => ?_) (fun hc => ?_)
  · have hr := ifn hr hc
    refine r_iload dX12_closes_155 4 rfl (Or.inr rfl) ?_
    refine r_scast 0 (v := (2, l4)) (w := (0, l4)) rfl zc hTz (st' := [(0, l4)]) rfl ?_
    refine r_if_ne dX12_closes_157 (tgt := 163) (by decide) (fun hc => ?_) (fun hc => ?_)
    · have hr := ifn hr hc
      refine r_aload_n dX12_closes_163 rfl 0 rfl (nl rfl) ?_
      refine r_get 12 29 (o := a0) (w := (50, h a0 29)) (T := TX12) (ref := "FollowingRefsModel") rfl (by decide) rfl (by decide) inlX12 (wsl_7 _ (List.mem_of_getElem? (i := 19) rfl)) rfl dX12_closes_164 rfl ?_
      refine r_iload_n dX12_closes_167 rfl 3 rfl (Or.inl rfl) ?_
      refine r_iload_n dX12_closes_168 rfl 2 rfl (Or.inl rfl) ?_
      obtain ⟨h169, hg169, hr⟩ := bnd hr
      refine r_iast dX12_closes_169 hg169 ?_
      refine r_iconst dX12_closes_170 (by decide) ?_
      refine r_istore_n dX12_closes_171 rfl (Or.inl rfl) (by decide) (lv' := [(1, (0, 1)), (0, (22, a0)), (2, (0, l2)), (3, (0, l3)), (4, (2, l4)), (5, (0, l5))]) rfl ?_
      refine r_iinc (k := 3) (v := l3) dX12_closes_172 rfl (by decide) (lv' := [(3, (0, w32 (l3 + 1))), (1, (0, 1)), (0, (22, a0)), (2, (0, l2)), (4, (2, l4)), (5, (0, l5))]) rfl ?_
      refine r_goto dX12_closes_175 (tgt := 12) (by decide) ?_
      refine r_lcast 1 (v := (0, 1)) (w := (2, 1)) rfl cz (fun _ => Or.inr rfl) (lv' := [(3, (0, w32 (l3 + 1))), (1, (2, 1)), (0, (22, a0)), (2, (0, l2)), (4, (2, l4)), (5, (0, l5))]) rfl ?_
      refine r_sub [2, 1, 3, 0] (lv' := [(0, (22, a0)), (1, (2, 1)), (2, (0, l2)), (3, (0, w32 (l3 + 1)))]) rfl ?_
      obtain rfl := Option.some.inj hr
      exact k2 _ _ _ hk
    · have hr := ifp hr hc
      refine r_goto dX12_closes_160 (tgt := 172) (by decide) ?_
      refine r_iinc (k := 3) (v := l3) dX12_closes_172 rfl (by decide) (lv' := [(3, (0, w32 (l3 + 1))), (0, (22, a0)), (1, (2, l1)), (2, (0, l2)), (4, (2, l4)), (5, (0, l5))]) rfl ?_
      refine r_goto dX12_closes_175 (tgt := 12) (by decide) ?_
      refine r_sub [1, 2, 3, 0] (lv' := [(0, (22, a0)), (1, (2, l1)), (2, (0, l2)), (3, (0, w32 (l3 + 1)))]) rfl ?_
      obtain rfl := Option.some.inj hr
      exact k2 _ _ _ hk
  · have hr := ifp hr hc
    refine r_aload_n dX12_closes_60 rfl 0 rfl (nl rfl) ?_
    refine r_get 12 6 (o := a0) (w := (50, h a0 6)) (T := TX12) (ref := "FollowingRefsModel") rfl (by decide) rfl (by decide) inlX12 (wsl_7 _ (List.mem_of_getElem? (i := 8) rfl)) rfl dX12_closes_61 rfl ?_
    refine r_bipush dX12_closes_64 (by decide) (by decide) ?_
    refine r_iload dX12_closes_66 5 rfl (Or.inl rfl) ?_
    refine r_iadd dX12_closes_68 ?_
    obtain ⟨v69, hg69, hr⟩ := bnd hr
    refine r_iald dX12_closes_69 hg69 ?_
    refine r_aload_n dX12_closes_70 rfl 0 rfl (nl rfl) ?_
    refine r_get 12 6 (o := a0) (w := (50, h a0 6)) (T := TX12) (ref := "FollowingRefsModel") rfl (by decide) rfl (by decide) inlX12 (wsl_7 _ (List.mem_of_getElem? (i := 8) rfl)) rfl dX12_closes_71 rfl ?_
    refine r_sipush dX12_closes_74 (by decide) (by decide) ?_
    refine r_iload_n dX12_closes_77 rfl 3 rfl (Or.inl rfl) ?_
    refine r_iadd dX12_closes_78 ?_
    obtain ⟨v79, hg79, hr⟩ := bnd hr
    refine r_iald dX12_closes_79 hg79 ?_
    refine r_icmp_ne dX12_closes_80 (tgt := 112) (by decide) (fun hc => ?_) (fun hc => ?_)
    · have hr := ifn hr hc
      exact oX12_closes_b112 (K := K) (fun r z => k0 r z) (fun _ _ _ z => k1 _ _ _ z) (fun _ _ _ z => k2 _ _ _ z) (fun _ _ z => k3 _ _ z) hr hk
    · have hr := ifp hr hc
      refine r_aload_n dX12_closes_83 rfl 0 rfl (nl rfl) ?_
      refine r_get 12 6 (o := a0) (w := (50, h a0 6)) (T := TX12) (ref := "FollowingRefsModel") rfl (by decide) rfl (by decide) inlX12 (wsl_7 _ (List.mem_of_getElem? (i := 8) rfl)) rfl dX12_closes_84 rfl ?_
      refine r_bipush dX12_closes_87 (by decide) (by decide) ?_
      refine r_iload dX12_closes_89 5 rfl (Or.inl rfl) ?_
      refine r_iadd dX12_closes_91 ?_
      obtain ⟨v92, hg92, hr⟩ := bnd hr
      refine r_iald dX12_closes_92 hg92 ?_
      refine r_iconst dX12_closes_93 (by decide) ?_
      refine r_icmp_ne dX12_closes_94 (tgt := 112) (by decide) (fun hc => ?_) (fun hc => ?_)
      · have hr := ifn hr hc
        exact oX12_closes_b112 (K := K) (fun r z => k0 r z) (fun _ _ _ z => k1 _ _ _ z) (fun _ _ _ z => k2 _ _ _ z) (fun _ _ z => k3 _ _ z) hr hk
      · have hr := ifp hr hc
        refine r_aload_n dX12_closes_97 rfl 0 rfl (nl rfl) ?_
        refine r_get 12 28 (o := a0) (w := (50, h a0 28)) (T := TX12) (ref := "FollowingRefsModel") rfl (by decide) rfl (by decide) inlX12 (wsl_7 _ (List.mem_of_getElem? (i := 18) rfl)) rfl dX12_closes_98 rfl ?_
        refine r_bipush dX12_closes_101 (by decide) (by decide) ?_
        refine r_iload_n dX12_closes_103 rfl 3 rfl (Or.inl rfl) ?_
        refine r_imul dX12_closes_104 ?_
        refine r_iload dX12_closes_105 5 rfl (Or.inl rfl) ?_
        refine r_iadd dX12_closes_107 ?_
        obtain ⟨v108, hg108, hr⟩ := bnd hr
        refine r_iald dX12_closes_108 hg108 ?_
        refine r_goto dX12_closes_109 (tgt := 113) (by decide) ?_
        exact oX12_closes_b113 (K := K) (fun r z => k0 r z) (fun _ _ _ z => k1 _ _ _ z) (fun _ _ _ z => k2 _ _ _ z) (fun _ _ z => k3 _ _ z) hr hk
set_option maxRecDepth 100000 in
set_option maxHeartbeats 4000000 in
theorem oX12_closes_s12 {h0 : hH} {a0 l2 l1 l3 : Int} {K : (hH × Int × Int) ⊕ ((hH × Int × Int) ⊕ (hH)) → Prop} (k0 : ∀ r, K (.inr (.inr (r))) → x = (none, r)) (k1 : ∀ (h : hH) (l1 : Int) (l2 : Int), K (.inr (.inl (h, l1, l2))) → Wq p l e R s m args below meth c D G A H0 true n0 M_X12_closes x 0 0 4 [(0, (22, a0)), (1, (2, l1)), (2, (0, l2))] [] h) (k2 : ∀ (h : hH) (l1 : Int) (l3 : Int), K (.inl (h, l1, l3)) → Wq p l e R s m args below meth c D G A H0 true n0 M_X12_closes x 0 0 12 [(0, (22, a0)), (1, (2, l1)), (2, (0, l2)), (3, (0, l3))] [] h) {r : (hH × Int × Int) ⊕ ((hH × Int × Int) ⊕ (hH))} (hr : fX12_closes_s12 h0 a0 l2 (h, l1, l3) = some r) (hk : K r) : Wq p l e R s m args below meth c D G A H0 true n0 M_X12_closes x 0 0 12 [(0, (22, a0)), (1, (2, l1)), (2, (0, l2)), (3, (0, l3))] [] h := by
  unfold fX12_closes_s12 at hr
  refine r_iload_n dX12_closes_12 rfl 3 rfl (Or.inl rfl) ?_
  refine r_bipush dX12_closes_13 (by decide) (by decide) ?_
  refine r_icmp_ge dX12_closes_15 (tgt := 178) (by decide) (fun hc => ?_) (fun hc => ?_)
  · have hr := ifn hr hc
    refine r_iinc (k := 2) (v := l2) dX12_closes_178 rfl (by decide) (lv' := [(2, (0, w32 (l2 + 1))), (0, (22, a0)), (1, (2, l1)), (3, (0, l3))]) rfl ?_
    refine r_goto dX12_closes_181 (tgt := 4) (by decide) ?_
    refine r_sub [1, 2, 0] (lv' := [(0, (22, a0)), (1, (2, l1)), (2, (0, w32 (l2 + 1)))]) rfl ?_
    obtain rfl := Option.some.inj hr
    exact k1 _ _ _ hk
  · have hr := ifp hr hc
    refine r_aload_n dX12_closes_18 rfl 0 rfl (nl rfl) ?_
    refine r_get 12 6 (o := a0) (w := (50, h a0 6)) (T := TX12) (ref := "FollowingRefsModel") rfl (by decide) rfl (by decide) inlX12 (wsl_7 _ (List.mem_of_getElem? (i := 8) rfl)) rfl dX12_closes_19 rfl ?_
    refine r_sipush dX12_closes_22 (by decide) (by decide) ?_
    refine r_iload_n dX12_closes_25 rfl 3 rfl (Or.inl rfl) ?_
    refine r_iadd dX12_closes_26 ?_
    obtain ⟨v27, hg27, hr⟩ := bnd hr
    refine r_iald dX12_closes_27 hg27 ?_
    refine r_if_eq dX12_closes_28 (tgt := 172) (by decide) (fun hc => ?_) (fun hc => ?_)
    · have hr := ifp hr hc
      refine r_iinc (k := 3) (v := l3) dX12_closes_172 rfl (by decide) (lv' := [(3, (0, w32 (l3 + 1))), (0, (22, a0)), (1, (2, l1)), (2, (0, l2))]) rfl ?_
      refine r_goto dX12_closes_175 (tgt := 12) (by decide) ?_
      refine r_sub [1, 2, 3, 0] (lv' := [(0, (22, a0)), (1, (2, l1)), (2, (0, l2)), (3, (0, w32 (l3 + 1)))]) rfl ?_
      obtain rfl := Option.some.inj hr
      exact k2 _ _ _ hk
    · have hr := ifn hr hc
      refine r_aload_n dX12_closes_31 rfl 0 rfl (nl rfl) ?_
      refine r_get 12 29 (o := a0) (w := (50, h a0 29)) (T := TX12) (ref := "FollowingRefsModel") rfl (by decide) rfl (by decide) inlX12 (wsl_7 _ (List.mem_of_getElem? (i := 19) rfl)) rfl dX12_closes_32 rfl ?_
      refine r_iload_n dX12_closes_35 rfl 3 rfl (Or.inl rfl) ?_
      obtain ⟨v36, hg36, hr⟩ := bnd hr
      refine r_iald dX12_closes_36 hg36 ?_
      refine r_if_lt dX12_closes_37 (tgt := 43) (by decide) (fun hc => ?_) (fun hc => ?_)
      · have hr := ifp hr hc
        refine r_iconst dX12_closes_43 (by decide) ?_
        refine r_istore dX12_closes_44 (Or.inl rfl) (by decide) (lv' := [(4, (0, 0)), (0, (22, a0)), (1, (2, l1)), (2, (0, l2)), (3, (0, l3))]) rfl ?_
        refine r_iconst dX12_closes_46 (by decide) ?_
        refine r_istore dX12_closes_47 (Or.inl rfl) (by decide) (lv' := [(5, (0, 0)), (4, (0, 0)), (0, (22, a0)), (1, (2, l1)), (2, (0, l2)), (3, (0, l3))]) rfl ?_
        refine r_lcast 1 (v := (0, 0)) (w := (2, 0)) rfl cz (fun _ => Or.inl rfl) (lv' := [(5, (0, 0)), (4, (2, 0)), (0, (22, a0)), (1, (2, l1)), (2, (0, l2)), (3, (0, l3))]) rfl ?_
        refine r_sub [2, 3, 4, 5, 1, 0] (lv' := [(0, (22, a0)), (1, (2, l1)), (2, (0, l2)), (3, (0, l3)), (4, (2, 0)), (5, (0, 0))]) rfl ?_
        exact lp_ok (w := fun (q : Int × Int) => Wq p l e R s m args below meth c D G A H0 true n0 M_X12_closes x 0 0 49 [(0, (22, a0)), (1, (2, l1)), (2, (0, l2)), (3, (0, l3)), (4, (2, q.1)), (5, (0, q.2))] [] (h)) (K := K) (fun ⟨q0, q1⟩ r h1 h2 => oX12_closes_s49 (K := Sum.elim (fun (q : Int × Int) => Wq p l e R s m args below meth c D G A H0 true n0 M_X12_closes x 0 0 49 [(0, (22, a0)), (1, (2, l1)), (2, (0, l2)), (3, (0, l3)), (4, (2, q.1)), (5, (0, q.2))] [] (h)) (K)) (fun r z => k0 r z) (fun _ _ _ z => k1 _ _ _ z) (fun _ _ _ z => k2 _ _ _ z) (fun _ _ z => z) h1 h2) hr hk
      · have hr := ifn hr hc
        refine r_goto dX12_closes_40 (tgt := 172) (by decide) ?_
        refine r_iinc (k := 3) (v := l3) dX12_closes_172 rfl (by decide) (lv' := [(3, (0, w32 (l3 + 1))), (0, (22, a0)), (1, (2, l1)), (2, (0, l2))]) rfl ?_
        refine r_goto dX12_closes_175 (tgt := 12) (by decide) ?_
        refine r_sub [1, 2, 3, 0] (lv' := [(0, (22, a0)), (1, (2, l1)), (2, (0, l2)), (3, (0, w32 (l3 + 1)))]) rfl ?_
        obtain rfl := Option.some.inj hr
        exact k2 _ _ _ hk
set_option maxRecDepth 100000 in
set_option maxHeartbeats 4000000 in
theorem oX12_closes_s4 {h0 : hH} {a0 l1 l2 : Int} {K : (hH × Int × Int) ⊕ (hH) → Prop} (k0 : ∀ r, K (.inr (r)) → x = (none, r)) (k1 : ∀ (h : hH) (l1 : Int) (l2 : Int), K (.inl (h, l1, l2)) → Wq p l e R s m args below meth c D G A H0 true n0 M_X12_closes x 0 0 4 [(0, (22, a0)), (1, (2, l1)), (2, (0, l2))] [] h) {r : (hH × Int × Int) ⊕ (hH)} (hr : fX12_closes_s4 h0 a0 (h, l1, l2) = some r) (hk : K r) : Wq p l e R s m args below meth c D G A H0 true n0 M_X12_closes x 0 0 4 [(0, (22, a0)), (1, (2, l1)), (2, (0, l2))] [] h := by
  unfold fX12_closes_s4 at hr
  refine r_iload_n dX12_closes_4 rfl 1 rfl (Or.inr rfl) ?_
  refine r_scast 0 (v := (2, l1)) (w := (0, l1)) rfl zc hTz (st' := [(0, l1)]) rfl ?_
  refine r_if_eq dX12_closes_5 (tgt := 184) (by decide) (fun hc => ?_) (fun hc => ?_)
  · have hr := ifp hr hc
    obtain rfl := Option.some.inj hr
    exact r_vret dX12_closes_184 rfl (k0 _ hk) ⟨rfl, rfl⟩
  · have hr := ifn hr hc
    refine r_iconst dX12_closes_8 (by decide) ?_
    refine r_istore_n dX12_closes_9 rfl (Or.inl rfl) (by decide) (lv' := [(1, (0, 0)), (0, (22, a0)), (2, (0, l2))]) rfl ?_
    refine r_iconst dX12_closes_10 (by decide) ?_
    refine r_istore_n dX12_closes_11 rfl (Or.inl rfl) (by decide) (lv' := [(3, (0, 0)), (1, (0, 0)), (0, (22, a0)), (2, (0, l2))]) rfl ?_
    refine r_lcast 1 (v := (0, 0)) (w := (2, 0)) rfl cz (fun _ => Or.inl rfl) (lv' := [(3, (0, 0)), (1, (2, 0)), (0, (22, a0)), (2, (0, l2))]) rfl ?_
    refine r_sub [2, 1, 3, 0] (lv' := [(0, (22, a0)), (1, (2, 0)), (2, (0, l2)), (3, (0, 0))]) rfl ?_
    exact lp_ok (w := fun (q : hH × Int × Int) => Wq p l e R s m args below meth c D G A H0 true n0 M_X12_closes x 0 0 12 [(0, (22, a0)), (1, (2, q.2.1)), (2, (0, l2)), (3, (0, q.2.2))] [] (q.1)) (K := K) (fun ⟨q0, q1, q2⟩ r h1 h2 => oX12_closes_s12 (K := Sum.elim (fun (q : hH × Int × Int) => Wq p l e R s m args below meth c D G A H0 true n0 M_X12_closes x 0 0 12 [(0, (22, a0)), (1, (2, q.2.1)), (2, (0, l2)), (3, (0, q.2.2))] [] (q.1)) (K)) (fun r z => k0 r z) (fun _ _ _ z => k1 _ _ _ z) (fun _ _ _ z => z) h1 h2) hr hk
set_option maxRecDepth 100000 in
set_option maxHeartbeats 4000000 in
theorem oX12_closes_b0 {a0 : Int} {K : hH → Prop} (k0 : ∀ r, K (r) → x = (none, r)) {r : hH} (hr : fX12_closes h a0 = some r) (hk : K r) : Wq p l e R s m args below meth c D G A H0 true n0 M_X12_closes x 0 0 0 [(0, (22, a0))] [] h := by
  unfold fX12_closes at hr
  refine r_iconst dX12_closes_0 (by decide) ?_
  refine r_istore_n dX12_closes_1 rfl (Or.inl rfl) (by decide) (lv' := [(1, (0, 1)), (0, (22, a0))]) rfl ?_
  refine r_iconst dX12_closes_2 (by decide) ?_
  refine r_istore_n dX12_closes_3 rfl (Or.inl rfl) (by decide) (lv' := [(2, (0, 1)), (1, (0, 1)), (0, (22, a0))]) rfl ?_
  refine r_lcast 1 (v := (0, 1)) (w := (2, 1)) rfl cz (fun _ => Or.inr rfl) (lv' := [(2, (0, 1)), (1, (2, 1)), (0, (22, a0))]) rfl ?_
  refine r_sub [2, 1, 0] (lv' := [(0, (22, a0)), (1, (2, 1)), (2, (0, 1))]) rfl ?_
  exact lp_ok (w := fun (q : hH × Int × Int) => Wq p l e R s m args below meth c D G A H0 true n0 M_X12_closes x 0 0 4 [(0, (22, a0)), (1, (2, q.2.1)), (2, (0, q.2.2))] [] (q.1)) (K := K) (fun ⟨q0, q1, q2⟩ r h1 h2 => oX12_closes_s4 (K := Sum.elim (fun (q : hH × Int × Int) => Wq p l e R s m args below meth c D G A H0 true n0 M_X12_closes x 0 0 4 [(0, (22, a0)), (1, (2, q.2.1)), (2, (0, q.2.2))] [] (q.1)) (K)) (fun r z => k0 r z) (fun _ _ _ z => z) h1 h2) hr hk
end M_X12_closes
theorem oX12_closes {l : Launch} {D : va_G} {G : gG} {h : hH} {a0 : Int} {r : hH} (hr : fX12_closes h a0 = some r) : Ctr l D G true yX12_closes M_X12_closes [(22, a0)] h (none, r) :=
  Ctr_of (by decide) rfl (fun z => by cases z) (nl rfl) (fun {p e R s m args below meth c A H0} => by
    exact oX12_closes_b0 (K := fun z9 => z9 = r) (fun r9 z => by rw [z]) hr rfl)
/-! X12_laysAhead -/
theorem dX12_laysAhead_0 : decode cX12_laysAhead 0 = .ok (.iconst 0, 1) := by decide +kernel
theorem dX12_laysAhead_1 : decode cX12_laysAhead 1 = .ok (.istore_n 1, 1) := by decide +kernel
theorem dX12_laysAhead_2 : decode cX12_laysAhead 2 = .ok (.iload_n 1, 1) := by decide +kernel
theorem dX12_laysAhead_3 : decode cX12_laysAhead 3 = .ok (.bipush 99, 2) := by decide +kernel
theorem dX12_laysAhead_5 : decode cX12_laysAhead 5 = .ok (.if_icmp .ge 116, 3) := by decide +kernel
theorem dX12_laysAhead_8 : decode cX12_laysAhead 8 = .ok (.aload_n 0, 1) := by decide +kernel
theorem dX12_laysAhead_9 : decode cX12_laysAhead 9 = .ok (.getfield 68, 3) := by decide +kernel
theorem dX12_laysAhead_12 : decode cX12_laysAhead 12 = .ok (.iload_n 1, 1) := by decide +kernel
theorem dX12_laysAhead_13 : decode cX12_laysAhead 13 = .ok (.iconst (-1), 1) := by decide +kernel
theorem dX12_laysAhead_14 : decode cX12_laysAhead 14 = .ok (.iastore, 1) := by decide +kernel
theorem dX12_laysAhead_15 : decode cX12_laysAhead 15 = .ok (.iconst 0, 1) := by decide +kernel
theorem dX12_laysAhead_16 : decode cX12_laysAhead 16 = .ok (.istore_n 2, 1) := by decide +kernel
theorem dX12_laysAhead_17 : decode cX12_laysAhead 17 = .ok (.iload_n 2, 1) := by decide +kernel
theorem dX12_laysAhead_18 : decode cX12_laysAhead 18 = .ok (.iconst 4, 1) := by decide +kernel
theorem dX12_laysAhead_19 : decode cX12_laysAhead 19 = .ok (.if_icmp .ge 21, 3) := by decide +kernel
theorem dX12_laysAhead_22 : decode cX12_laysAhead 22 = .ok (.aload_n 0, 1) := by decide +kernel
theorem dX12_laysAhead_23 : decode cX12_laysAhead 23 = .ok (.getfield 62, 3) := by decide +kernel
theorem dX12_laysAhead_26 : decode cX12_laysAhead 26 = .ok (.iconst 4, 1) := by decide +kernel
theorem dX12_laysAhead_27 : decode cX12_laysAhead 27 = .ok (.iload_n 1, 1) := by decide +kernel
theorem dX12_laysAhead_28 : decode cX12_laysAhead 28 = .ok (.imul, 1) := by decide +kernel
theorem dX12_laysAhead_29 : decode cX12_laysAhead 29 = .ok (.iload_n 2, 1) := by decide +kernel
theorem dX12_laysAhead_30 : decode cX12_laysAhead 30 = .ok (.iadd, 1) := by decide +kernel
theorem dX12_laysAhead_31 : decode cX12_laysAhead 31 = .ok (.bipush (-9), 2) := by decide +kernel
theorem dX12_laysAhead_33 : decode cX12_laysAhead 33 = .ok (.iastore, 1) := by decide +kernel
theorem dX12_laysAhead_34 : decode cX12_laysAhead 34 = .ok (.iinc 2 1, 3) := by decide +kernel
theorem dX12_laysAhead_37 : decode cX12_laysAhead 37 = .ok (.goto (-20), 3) := by decide +kernel
theorem dX12_laysAhead_40 : decode cX12_laysAhead 40 = .ok (.iconst 0, 1) := by decide +kernel
theorem dX12_laysAhead_41 : decode cX12_laysAhead 41 = .ok (.istore_n 2, 1) := by decide +kernel
theorem dX12_laysAhead_42 : decode cX12_laysAhead 42 = .ok (.iload_n 2, 1) := by decide +kernel
theorem dX12_laysAhead_43 : decode cX12_laysAhead 43 = .ok (.aload_n 0, 1) := by decide +kernel
theorem dX12_laysAhead_44 : decode cX12_laysAhead 44 = .ok (.getfield 33, 3) := by decide +kernel
theorem dX12_laysAhead_47 : decode cX12_laysAhead 47 = .ok (.iconst 2, 1) := by decide +kernel
theorem dX12_laysAhead_48 : decode cX12_laysAhead 48 = .ok (.iaload, 1) := by decide +kernel
theorem dX12_laysAhead_49 : decode cX12_laysAhead 49 = .ok (.if_icmp .ge 66, 3) := by decide +kernel
theorem dX12_laysAhead_52 : decode cX12_laysAhead 52 = .ok (.aload_n 0, 1) := by decide +kernel
theorem dX12_laysAhead_53 : decode cX12_laysAhead 53 = .ok (.getfield 65, 3) := by decide +kernel
theorem dX12_laysAhead_56 : decode cX12_laysAhead 56 = .ok (.bipush 6, 2) := by decide +kernel
theorem dX12_laysAhead_58 : decode cX12_laysAhead 58 = .ok (.iload_n 1, 1) := by decide +kernel
theorem dX12_laysAhead_59 : decode cX12_laysAhead 59 = .ok (.imul, 1) := by decide +kernel
theorem dX12_laysAhead_60 : decode cX12_laysAhead 60 = .ok (.iload_n 2, 1) := by decide +kernel
theorem dX12_laysAhead_61 : decode cX12_laysAhead 61 = .ok (.iadd, 1) := by decide +kernel
theorem dX12_laysAhead_62 : decode cX12_laysAhead 62 = .ok (.aload_n 0, 1) := by decide +kernel
theorem dX12_laysAhead_63 : decode cX12_laysAhead 63 = .ok (.getfield 33, 3) := by decide +kernel
theorem dX12_laysAhead_66 : decode cX12_laysAhead 66 = .ok (.sipush 150, 3) := by decide +kernel
theorem dX12_laysAhead_69 : decode cX12_laysAhead 69 = .ok (.iload_n 1, 1) := by decide +kernel
theorem dX12_laysAhead_70 : decode cX12_laysAhead 70 = .ok (.iadd, 1) := by decide +kernel
theorem dX12_laysAhead_71 : decode cX12_laysAhead 71 = .ok (.iaload, 1) := by decide +kernel
theorem dX12_laysAhead_72 : decode cX12_laysAhead 72 = .ok (.iconst 1, 1) := by decide +kernel
theorem dX12_laysAhead_73 : decode cX12_laysAhead 73 = .ok (.if_icmp .ne 34, 3) := by decide +kernel
theorem dX12_laysAhead_76 : decode cX12_laysAhead 76 = .ok (.aload_n 0, 1) := by decide +kernel
theorem dX12_laysAhead_77 : decode cX12_laysAhead 77 = .ok (.getfield 33, 3) := by decide +kernel
theorem dX12_laysAhead_80 : decode cX12_laysAhead 80 = .ok (.bipush 58, 2) := by decide +kernel
theorem dX12_laysAhead_82 : decode cX12_laysAhead 82 = .ok (.iload_n 2, 1) := by decide +kernel
theorem dX12_laysAhead_83 : decode cX12_laysAhead 83 = .ok (.iadd, 1) := by decide +kernel
theorem dX12_laysAhead_84 : decode cX12_laysAhead 84 = .ok (.iaload, 1) := by decide +kernel
theorem dX12_laysAhead_85 : decode cX12_laysAhead 85 = .ok (.aload_n 0, 1) := by decide +kernel
theorem dX12_laysAhead_86 : decode cX12_laysAhead 86 = .ok (.getfield 33, 3) := by decide +kernel
theorem dX12_laysAhead_89 : decode cX12_laysAhead 89 = .ok (.sipush 249, 3) := by decide +kernel
theorem dX12_laysAhead_92 : decode cX12_laysAhead 92 = .ok (.iload_n 1, 1) := by decide +kernel
theorem dX12_laysAhead_93 : decode cX12_laysAhead 93 = .ok (.iadd, 1) := by decide +kernel
theorem dX12_laysAhead_94 : decode cX12_laysAhead 94 = .ok (.iaload, 1) := by decide +kernel
theorem dX12_laysAhead_95 : decode cX12_laysAhead 95 = .ok (.if_icmp .ne 12, 3) := by decide +kernel
theorem dX12_laysAhead_98 : decode cX12_laysAhead 98 = .ok (.aload_n 0, 1) := by decide +kernel
theorem dX12_laysAhead_99 : decode cX12_laysAhead 99 = .ok (.iload_n 1, 1) := by decide +kernel
theorem dX12_laysAhead_100 : decode cX12_laysAhead 100 = .ok (.iload_n 2, 1) := by decide +kernel
theorem dX12_laysAhead_101 : decode cX12_laysAhead 101 = .ok (.invokevirtual 333, 3) := by decide +kernel
theorem dX12_laysAhead_104 : decode cX12_laysAhead 104 = .ok (.goto 4, 3) := by decide +kernel
theorem dX12_laysAhead_107 : decode cX12_laysAhead 107 = .ok (.iconst (-1), 1) := by decide +kernel
theorem dX12_laysAhead_108 : decode cX12_laysAhead 108 = .ok (.iastore, 1) := by decide +kernel
theorem dX12_laysAhead_109 : decode cX12_laysAhead 109 = .ok (.iinc 2 1, 3) := by decide +kernel
theorem dX12_laysAhead_112 : decode cX12_laysAhead 112 = .ok (.goto (-70), 3) := by decide +kernel
theorem dX12_laysAhead_115 : decode cX12_laysAhead 115 = .ok (.iinc 1 1, 3) := by decide +kernel
theorem dX12_laysAhead_118 : decode cX12_laysAhead 118 = .ok (.goto (-116), 3) := by decide +kernel
theorem dX12_laysAhead_121 : decode cX12_laysAhead 121 = .ok (.return_, 1) := by decide +kernel
abbrev M_X12_laysAhead : mM := (cX12_laysAhead, 3, RX12, none, false, 3, 71, 0, 0)
theorem gX12_laysAhead : cI yX12_laysAhead M_X12_laysAhead 0 := ⟨(wsl_42 _ (List.mem_of_getElem? (i := 10) rfl)), (wsl_42 _ (List.mem_of_getElem? (i := 11) rfl)), (wsl_1 _ (List.mem_of_getElem? (i := 5) rfl)), (wsl_42 _ (List.mem_of_getElem? (i := 12) rfl)), by decide +kernel⟩
noncomputable def fX12_laysAhead_b108 (h : hH) (a0 l1 l2 s0 s1 s2 : Int) : Option ((hH × Int) ⊕ ((hH × Int) ⊕ (hH))) :=
  (aput h s2 s1 s0).bind fun h108 =>
  some (.inl (h108, w32 (l2 + 1)))
noncomputable def fX12_laysAhead_b107 (h : hH) (a0 l1 l2 s0 s1 : Int) : Option ((hH × Int) ⊕ ((hH × Int) ⊕ (hH))) :=
  fX12_laysAhead_b108 h a0 l1 l2 (-1) s0 s1
noncomputable def fX12_laysAhead_s42 (h0 : hH) (a0 l1 : Int) : hH × Int → Option ((hH × Int) ⊕ ((hH × Int) ⊕ (hH))) := fun (h, l2) =>
  (aget h (h a0 6) 2).bind fun v48 =>
  if l2 < v48 then
    (aget h (h a0 6) (w32 (150 + l1))).bind fun v71 =>
    if v71 = 1 then
      (aget h (h a0 6) (w32 (58 + l2))).bind fun v84 =>
      (aget h (h a0 6) (w32 (249 + l1))).bind fun v94 =>
      if v84 = v94 then
        (fX12_target h a0 l1 l2).bind fun r101 =>
        fX12_laysAhead_b108 h a0 l1 l2 r101 (w32 ((w32 (6 * l1)) + l2)) (h a0 28)
      else
        fX12_laysAhead_b107 h a0 l1 l2 (w32 ((w32 (6 * l1)) + l2)) (h a0 28)
    else
      fX12_laysAhead_b107 h a0 l1 l2 (w32 ((w32 (6 * l1)) + l2)) (h a0 28)
  else
    some (.inr (.inl (h, w32 (l1 + 1))))
noncomputable def fX12_laysAhead_s17 (h0 : hH) (a0 l1 : Int) : hH × Int → Option ((hH × Int) ⊕ ((hH × Int) ⊕ (hH))) := fun (h, l2) =>
  if l2 < 4 then
    (aput h (h a0 27) (w32 ((w32 (4 * l1)) + l2)) (-9)).bind fun h33 =>
    some (.inl (h33, w32 (l2 + 1)))
  else
    (lpO (fX12_laysAhead_s42 h a0 l1) (h, 0)).map (fun z9 => .inr (z9))
noncomputable def fX12_laysAhead_s2 (h0 : hH) (a0 : Int) : hH × Int → Option ((hH × Int) ⊕ (hH)) := fun (h, l1) =>
  if l1 < 99 then
    (aput h (h a0 29) l1 (-1)).bind fun h14 =>
    lpO (fX12_laysAhead_s17 h14 a0 l1) (h14, 0)
  else
    some (.inr (h))
noncomputable def fX12_laysAhead (h : hH) (a0 : Int) : Option (hH) :=
  lpO (fX12_laysAhead_s2 h a0) (h, 0)
section M_X12_laysAhead
variable {p : Program} {l : Launch} {e : Env} {R : Room} {s : State} {m : MethodId} {args : Array Value} {below : List Frame} {meth : Method} {c : Code} {D : va_G} {G : gG} {A : Nat → Prop} {H0 : Heap} {n0 : Int} {x : Option vV × hH} {h : hH}
set_option maxRecDepth 100000 in
set_option maxHeartbeats 4000000 in
theorem oX12_laysAhead_b108 {a0 l1 l2 s0 s1 s2 : Int} {K : (hH × Int) ⊕ ((hH × Int) ⊕ (hH)) → Prop} (k0 : ∀ r, K (.inr (.inr (r))) → x = (none, r)) (k1 : ∀ (h : hH) (l1 : Int), K (.inr (.inl (h, l1))) → Wq p l e R s m args below meth c D G A H0 true n0 M_X12_laysAhead x 0 0 2 [(0, (22, a0)), (1, (0, l1))] [] h) (k2 : ∀ (h : hH) (l2 : Int), K (.inl (h, l2)) → Wq p l e R s m args below meth c D G A H0 true n0 M_X12_laysAhead x 0 0 42 [(0, (22, a0)), (1, (0, l1)), (2, (0, l2))] [] h) {r : (hH × Int) ⊕ ((hH × Int) ⊕ (hH))} (hr : fX12_laysAhead_b108 h a0 l1 l2 s0 s1 s2 = some r) (hk : K r) : Wq p l e R s m args below meth c D G A H0 true n0 M_X12_laysAhead x 0 0 108 [(0, (22, a0)), (1, (0, l1)), (2, (0, l2))] [(0, s0), (0, s1), (50, s2)] h := by
  unfold fX12_laysAhead_b108 at hr
  obtain ⟨h108, hg108, hr⟩ := bnd hr
  refine r_iast dX12_laysAhead_108 hg108 ?_
  refine r_iinc (k := 2) (v := l2) dX12_laysAhead_109 rfl (by decide) (lv' := [(2, (0, w32 (l2 + 1))), (0, (22, a0)), (1, (0, l1))]) rfl ?_
  refine r_goto dX12_laysAhead_112 (tgt := 42) (by decide) ?_
  refine r_sub [1, 2, 0] (lv' := [(0, (22, a0)), (1, (0, l1)), (2, (0, w32 (l2 + 1)))]) rfl ?_
  obtain rfl := Option.some.inj hr
  exact k2 _ _ hk
set_option maxRecDepth 100000 in
set_option maxHeartbeats 4000000 in
theorem oX12_laysAhead_b107 {a0 l1 l2 s0 s1 : Int} {K : (hH × Int) ⊕ ((hH × Int) ⊕ (hH)) → Prop} (k0 : ∀ r, K (.inr (.inr (r))) → x = (none, r)) (k1 : ∀ (h : hH) (l1 : Int), K (.inr (.inl (h, l1))) → Wq p l e R s m args below meth c D G A H0 true n0 M_X12_laysAhead x 0 0 2 [(0, (22, a0)), (1, (0, l1))] [] h) (k2 : ∀ (h : hH) (l2 : Int), K (.inl (h, l2)) → Wq p l e R s m args below meth c D G A H0 true n0 M_X12_laysAhead x 0 0 42 [(0, (22, a0)), (1, (0, l1)), (2, (0, l2))] [] h) {r : (hH × Int) ⊕ ((hH × Int) ⊕ (hH))} (hr : fX12_laysAhead_b107 h a0 l1 l2 s0 s1 = some r) (hk : K r) : Wq p l e R s m args below meth c D G A H0 true n0 M_X12_laysAhead x 0 0 107 [(0, (22, a0)), (1, (0, l1)), (2, (0, l2))] [(0, s0), (50, s1)] h := by
  unfold fX12_laysAhead_b107 at hr
  refine r_iconst dX12_laysAhead_107 (by decide) ?_
  exact oX12_laysAhead_b108 (K := K) (fun r z => k0 r z) (fun _ _ z => k1 _ _ z) (fun _ _ z => k2 _ _ z) hr hk
set_option maxRecDepth 100000 in
set_option maxHeartbeats 4000000 in
theorem oX12_laysAhead_s42 {h0 : hH} {a0 l1 l2 : Int} {K : (hH × Int) ⊕ ((hH × Int) ⊕ (hH)) → Prop} (k0 : ∀ r, K (.inr (.inr (r))) → x = (none, r)) (k1 : ∀ (h : hH) (l1 : Int), K (.inr (.inl (h, l1))) → Wq p l e R s m args below meth c D G A H0 true n0 M_X12_laysAhead x 0 0 2 [(0, (22, a0)), (1, (0, l1))] [] h) (k2 : ∀ (h : hH) (l2 : Int), K (.inl (h, l2)) → Wq p l e R s m args below meth c D G A H0 true n0 M_X12_laysAhead x 0 0 42 [(0, (22, a0)), (1, (0, l1)), (2, (0, l2))] [] h) {r : (hH × Int) ⊕ ((hH × Int) ⊕ (hH))} (hr : fX12_laysAhead_s42 h0 a0 l1 (h, l2) = some r) (hk : K r) : Wq p l e R s m args below meth c D G A H0 true n0 M_X12_laysAhead x 0 0 42 [(0, (22, a0)), (1, (0, l1)), (2, (0, l2))] [] h := by
  unfold fX12_laysAhead_s42 at hr
  refine r_iload_n dX12_laysAhead_42 rfl 2 rfl (Or.inl rfl) ?_
  refine r_aload_n dX12_laysAhead_43 rfl 0 rfl (nl rfl) ?_
  refine r_get 12 6 (o := a0) (w := (50, h a0 6)) (T := TX12) (ref := "FollowingRefsModel") rfl (by decide) rfl (by decide) inlX12 (wsl_7 _ (List.mem_of_getElem? (i := 8) rfl)) rfl dX12_laysAhead_44 rfl ?_
  refine r_iconst dX12_laysAhead_47 (by decide) ?_
  obtain ⟨v48, hg48, hr⟩ := bnd hr
  refine r_iald dX12_laysAhead_48 hg48 ?_
  refine r_icmp_ge dX12_laysAhead_49 (tgt := 115) (by decide) (fun hc => ?_) (fun hc => ?_)
  · have hr := ifn hr hc
    refine r_iinc (k := 1) (v := l1) dX12_laysAhead_115 rfl (by decide) (lv' := [(1, (0, w32 (l1 + 1))), (0, (22, a0)), (2, (0, l2))]) rfl ?_
    refine r_goto dX12_laysAhead_118 (tgt := 2) (by decide) ?_
    refine r_sub [1, 0] (lv' := [(0, (22, a0)), (1, (0, w32 (l1 + 1)))]) rfl ?_
    obtain rfl := Option.some.inj hr
    exact k1 _ _ hk
  · have hr := ifp hr hc
    refine r_aload_n dX12_laysAhead_52 rfl 0 rfl (nl rfl) ?_
    refine r_get 12 28 (o := a0) (w := (50, h a0 28)) (T := TX12) (ref := "FollowingRefsModel") rfl (by decide) rfl (by decide) inlX12 (wsl_7 _ (List.mem_of_getElem? (i := 18) rfl)) rfl dX12_laysAhead_53 rfl ?_
    refine r_bipush dX12_laysAhead_56 (by decide) (by decide) ?_
    refine r_iload_n dX12_laysAhead_58 rfl 1 rfl (Or.inl rfl) ?_
    refine r_imul dX12_laysAhead_59 ?_
    refine r_iload_n dX12_laysAhead_60 rfl 2 rfl (Or.inl rfl) ?_
    refine r_iadd dX12_laysAhead_61 ?_
    refine r_aload_n dX12_laysAhead_62 rfl 0 rfl (nl rfl) ?_
    refine r_get 12 6 (o := a0) (w := (50, h a0 6)) (T := TX12) (ref := "FollowingRefsModel") rfl (by decide) rfl (by decide) inlX12 (wsl_7 _ (List.mem_of_getElem? (i := 8) rfl)) rfl dX12_laysAhead_63 rfl ?_
    refine r_sipush dX12_laysAhead_66 (by decide) (by decide) ?_
    refine r_iload_n dX12_laysAhead_69 rfl 1 rfl (Or.inl rfl) ?_
    refine r_iadd dX12_laysAhead_70 ?_
    obtain ⟨v71, hg71, hr⟩ := bnd hr
    refine r_iald dX12_laysAhead_71 hg71 ?_
    refine r_iconst dX12_laysAhead_72 (by decide) ?_
    refine r_icmp_ne dX12_laysAhead_73 (tgt := 107) (by decide) (fun hc => ?_) (fun hc => ?_)
    · have hr := ifn hr hc
      exact oX12_laysAhead_b107 (K := K) (fun r z => k0 r z) (fun _ _ z => k1 _ _ z) (fun _ _ z => k2 _ _ z) hr hk
    · have hr := ifp hr hc
      refine r_aload_n dX12_laysAhead_76 rfl 0 rfl (nl rfl) ?_
      refine r_get 12 6 (o := a0) (w := (50, h a0 6)) (T := TX12) (ref := "FollowingRefsModel") rfl (by decide) rfl (by decide) inlX12 (wsl_7 _ (List.mem_of_getElem? (i := 8) rfl)) rfl dX12_laysAhead_77 rfl ?_
      refine r_bipush dX12_laysAhead_80 (by decide) (by decide) ?_
      refine r_iload_n dX12_laysAhead_82 rfl 2 rfl (Or.inl rfl) ?_
      refine r_iadd dX12_laysAhead_83 ?_
      obtain ⟨v84, hg84, hr⟩ := bnd hr
      refine r_iald dX12_laysAhead_84 hg84 ?_
      refine r_aload_n dX12_laysAhead_85 rfl 0 rfl (nl rfl) ?_
      refine r_get 12 6 (o := a0) (w := (50, h a0 6)) (T := TX12) (ref := "FollowingRefsModel") rfl (by decide) rfl (by decide) inlX12 (wsl_7 _ (List.mem_of_getElem? (i := 8) rfl)) rfl dX12_laysAhead_86 rfl ?_
      refine r_sipush dX12_laysAhead_89 (by decide) (by decide) ?_
      refine r_iload_n dX12_laysAhead_92 rfl 1 rfl (Or.inl rfl) ?_
      refine r_iadd dX12_laysAhead_93 ?_
      obtain ⟨v94, hg94, hr⟩ := bnd hr
      refine r_iald dX12_laysAhead_94 hg94 ?_
      refine r_icmp_ne dX12_laysAhead_95 (tgt := 107) (by decide) (fun hc => ?_) (fun hc => ?_)
      · have hr := ifn hr hc
        exact oX12_laysAhead_b107 (K := K) (fun r z => k0 r z) (fun _ _ z => k1 _ _ z) (fun _ _ z => k2 _ _ z) hr hk
      · have hr := ifp hr hc
        refine r_aload_n dX12_laysAhead_98 rfl 0 rfl (nl rfl) ?_
        refine r_iload_n dX12_laysAhead_99 rfl 1 rfl (Or.inl rfl) ?_
        refine r_iload_n dX12_laysAhead_100 rfl 2 rfl (Or.inl rfl) ?_
        obtain ⟨r101, hg101, hr⟩ := bnd hr
        refine k_V (ci := 12) (o := a0) (T := TX12) (as := [(0, l1), (0, l2)]) (rest := [(0, w32 ((w32 (6 * l1)) + l2)), (50, h a0 28)]) (X := (some (0, r101), h)) (oX12_target hg101) gX12_target rfl (by decide) rfl (wsl_42 _ (List.mem_of_getElem? (i := 13) rfl)) rfl dX12_laysAhead_101 rfl ?_
        refine r_goto dX12_laysAhead_104 (tgt := 108) (by decide) ?_
        exact oX12_laysAhead_b108 (K := K) (fun r z => k0 r z) (fun _ _ z => k1 _ _ z) (fun _ _ z => k2 _ _ z) hr hk
set_option maxRecDepth 100000 in
set_option maxHeartbeats 4000000 in
theorem oX12_laysAhead_s17 {h0 : hH} {a0 l1 l2 : Int} {K : (hH × Int) ⊕ ((hH × Int) ⊕ (hH)) → Prop} (k0 : ∀ r, K (.inr (.inr (r))) → x = (none, r)) (k1 : ∀ (h : hH) (l1 : Int), K (.inr (.inl (h, l1))) → Wq p l e R s m args below meth c D G A H0 true n0 M_X12_laysAhead x 0 0 2 [(0, (22, a0)), (1, (0, l1))] [] h) (k2 : ∀ (h : hH) (l2 : Int), K (.inl (h, l2)) → Wq p l e R s m args below meth c D G A H0 true n0 M_X12_laysAhead x 0 0 17 [(0, (22, a0)), (1, (0, l1)), (2, (0, l2))] [] h) {r : (hH × Int) ⊕ ((hH × Int) ⊕ (hH))} (hr : fX12_laysAhead_s17 h0 a0 l1 (h, l2) = some r) (hk : K r) : Wq p l e R s m args below meth c D G A H0 true n0 M_X12_laysAhead x 0 0 17 [(0, (22, a0)), (1, (0, l1)), (2, (0, l2))] [] h := by
  unfold fX12_laysAhead_s17 at hr
  refine r_iload_n dX12_laysAhead_17 rfl 2 rfl (Or.inl rfl) ?_
  refine r_iconst dX12_laysAhead_18 (by decide) ?_
  refine r_icmp_ge dX12_laysAhead_19 (tgt := 40) (by decide) (fun hc => ?_) (fun hc => ?_)
  · have hr := ifn hr hc
    refine r_iconst dX12_laysAhead_40 (by decide) ?_
    refine r_istore_n dX12_laysAhead_41 rfl (Or.inl rfl) (by decide) (lv' := [(2, (0, 0)), (0, (22, a0)), (1, (0, l1))]) rfl ?_
    refine r_sub [1, 2, 0] (lv' := [(0, (22, a0)), (1, (0, l1)), (2, (0, 0))]) rfl ?_
    obtain ⟨r9, hr9, rfl⟩ := mpp hr
    exact lp_ok (w := fun (q : hH × Int) => Wq p l e R s m args below meth c D G A H0 true n0 M_X12_laysAhead x 0 0 42 [(0, (22, a0)), (1, (0, l1)), (2, (0, q.2))] [] (q.1)) (K := fun z9 => K (.inr (z9))) (fun ⟨q0, q1⟩ r h1 h2 => oX12_laysAhead_s42 (K := Sum.elim (fun (q : hH × Int) => Wq p l e R s m args below meth c D G A H0 true n0 M_X12_laysAhead x 0 0 42 [(0, (22, a0)), (1, (0, l1)), (2, (0, q.2))] [] (q.1)) (fun z9 => K (.inr (z9)))) (fun r z => k0 r z) (fun _ _ z => k1 _ _ z) (fun _ _ z => z) h1 h2) hr9 hk
  · have hr := ifp hr hc
    refine r_aload_n dX12_laysAhead_22 rfl 0 rfl (nl rfl) ?_
    refine r_get 12 27 (o := a0) (w := (50, h a0 27)) (T := TX12) (ref := "FollowingRefsModel") rfl (by decide) rfl (by decide) inlX12 (wsl_7 _ (List.mem_of_getElem? (i := 17) rfl)) rfl dX12_laysAhead_23 rfl ?_
    refine r_iconst dX12_laysAhead_26 (by decide) ?_
    refine r_iload_n dX12_laysAhead_27 rfl 1 rfl (Or.inl rfl) ?_
    refine r_imul dX12_laysAhead_28 ?_
    refine r_iload_n dX12_laysAhead_29 rfl 2 rfl (Or.inl rfl) ?_
    refine r_iadd dX12_laysAhead_30 ?_
    refine r_bipush dX12_laysAhead_31 (by decide) (by decide) ?_
    obtain ⟨h33, hg33, hr⟩ := bnd hr
    refine r_iast dX12_laysAhead_33 hg33 ?_
    refine r_iinc (k := 2) (v := l2) dX12_laysAhead_34 rfl (by decide) (lv' := [(2, (0, w32 (l2 + 1))), (0, (22, a0)), (1, (0, l1))]) rfl ?_
    refine r_goto dX12_laysAhead_37 (tgt := 17) (by decide) ?_
    refine r_sub [1, 2, 0] (lv' := [(0, (22, a0)), (1, (0, l1)), (2, (0, w32 (l2 + 1)))]) rfl ?_
    obtain rfl := Option.some.inj hr
    exact k2 _ _ hk
set_option maxRecDepth 100000 in
set_option maxHeartbeats 4000000 in
theorem oX12_laysAhead_s2 {h0 : hH} {a0 l1 : Int} {K : (hH × Int) ⊕ (hH) → Prop} (k0 : ∀ r, K (.inr (r)) → x = (none, r)) (k1 : ∀ (h : hH) (l1 : Int), K (.inl (h, l1)) → Wq p l e R s m args below meth c D G A H0 true n0 M_X12_laysAhead x 0 0 2 [(0, (22, a0)), (1, (0, l1))] [] h) {r : (hH × Int) ⊕ (hH)} (hr : fX12_laysAhead_s2 h0 a0 (h, l1) = some r) (hk : K r) : Wq p l e R s m args below meth c D G A H0 true n0 M_X12_laysAhead x 0 0 2 [(0, (22, a0)), (1, (0, l1))] [] h := by
  unfold fX12_laysAhead_s2 at hr
  refine r_iload_n dX12_laysAhead_2 rfl 1 rfl (Or.inl rfl) ?_
  refine r_bipush dX12_laysAhead_3 (by decide) (by decide) ?_
  refine r_icmp_ge dX12_laysAhead_5 (tgt := 121) (by decide) (fun hc => ?_) (fun hc => ?_)
  · have hr := ifn hr hc
    obtain rfl := Option.some.inj hr
    exact r_vret dX12_laysAhead_121 rfl (k0 _ hk) ⟨rfl, rfl⟩
  · have hr := ifp hr hc
    refine r_aload_n dX12_laysAhead_8 rfl 0 rfl (nl rfl) ?_
    refine r_get 12 29 (o := a0) (w := (50, h a0 29)) (T := TX12) (ref := "FollowingRefsModel") rfl (by decide) rfl (by decide) inlX12 (wsl_7 _ (List.mem_of_getElem? (i := 19) rfl)) rfl dX12_laysAhead_9 rfl ?_
    refine r_iload_n dX12_laysAhead_12 rfl 1 rfl (Or.inl rfl) ?_
    refine r_iconst dX12_laysAhead_13 (by decide) ?_
    obtain ⟨h14, hg14, hr⟩ := bnd hr
    refine r_iast dX12_laysAhead_14 hg14 ?_
    refine r_iconst dX12_laysAhead_15 (by decide) ?_
    refine r_istore_n dX12_laysAhead_16 rfl (Or.inl rfl) (by decide) (lv' := [(2, (0, 0)), (0, (22, a0)), (1, (0, l1))]) rfl ?_
    refine r_sub [1, 2, 0] (lv' := [(0, (22, a0)), (1, (0, l1)), (2, (0, 0))]) rfl ?_
    exact lp_ok (w := fun (q : hH × Int) => Wq p l e R s m args below meth c D G A H0 true n0 M_X12_laysAhead x 0 0 17 [(0, (22, a0)), (1, (0, l1)), (2, (0, q.2))] [] (q.1)) (K := K) (fun ⟨q0, q1⟩ r h1 h2 => oX12_laysAhead_s17 (K := Sum.elim (fun (q : hH × Int) => Wq p l e R s m args below meth c D G A H0 true n0 M_X12_laysAhead x 0 0 17 [(0, (22, a0)), (1, (0, l1)), (2, (0, q.2))] [] (q.1)) (K)) (fun r z => k0 r z) (fun _ _ z => k1 _ _ z) (fun _ _ z => z) h1 h2) hr hk
set_option maxRecDepth 100000 in
set_option maxHeartbeats 4000000 in
theorem oX12_laysAhead_b0 {a0 : Int} {K : hH → Prop} (k0 : ∀ r, K (r) → x = (none, r)) {r : hH} (hr : fX12_laysAhead h a0 = some r) (hk : K r) : Wq p l e R s m args below meth c D G A H0 true n0 M_X12_laysAhead x 0 0 0 [(0, (22, a0))] [] h := by
  unfold fX12_laysAhead at hr
  refine r_iconst dX12_laysAhead_0 (by decide) ?_
  refine r_istore_n dX12_laysAhead_1 rfl (Or.inl rfl) (by decide) (lv' := [(1, (0, 0)), (0, (22, a0))]) rfl ?_
  refine r_sub [1, 0] (lv' := [(0, (22, a0)), (1, (0, 0))]) rfl ?_
  exact lp_ok (w := fun (q : hH × Int) => Wq p l e R s m args below meth c D G A H0 true n0 M_X12_laysAhead x 0 0 2 [(0, (22, a0)), (1, (0, q.2))] [] (q.1)) (K := K) (fun ⟨q0, q1⟩ r h1 h2 => oX12_laysAhead_s2 (K := Sum.elim (fun (q : hH × Int) => Wq p l e R s m args below meth c D G A H0 true n0 M_X12_laysAhead x 0 0 2 [(0, (22, a0)), (1, (0, q.2))] [] (q.1)) (K)) (fun r z => k0 r z) (fun _ _ z => z) h1 h2) hr hk
end M_X12_laysAhead
theorem oX12_laysAhead {l : Launch} {D : va_G} {G : gG} {h : hH} {a0 : Int} {r : hH} (hr : fX12_laysAhead h a0 = some r) : Ctr l D G true yX12_laysAhead M_X12_laysAhead [(22, a0)] h (none, r) :=
  Ctr_of (by decide) rfl (fun z => by cases z) (nl rfl) (fun {p e R s m args below meth c A H0} => by
    exact oX12_laysAhead_b0 (K := fun z9 => z9 = r) (fun r9 z => by rw [z]) hr rfl)
/-! X12_inserts -/
theorem dX12_inserts_0 : decode cX12_inserts 0 = .ok (.aload_n 0, 1) := by decide +kernel
theorem dX12_inserts_1 : decode cX12_inserts 1 = .ok (.getfield 33, 3) := by decide +kernel
theorem dX12_inserts_4 : decode cX12_inserts 4 = .ok (.sipush 148, 3) := by decide +kernel
theorem dX12_inserts_7 : decode cX12_inserts 7 = .ok (.iaload, 1) := by decide +kernel
theorem dX12_inserts_8 : decode cX12_inserts 8 = .ok (.istore_n 2, 1) := by decide +kernel
theorem dX12_inserts_9 : decode cX12_inserts 9 = .ok (.aload_n 0, 1) := by decide +kernel
theorem dX12_inserts_10 : decode cX12_inserts 10 = .ok (.getfield 33, 3) := by decide +kernel
theorem dX12_inserts_13 : decode cX12_inserts 13 = .ok (.sipush 150, 3) := by decide +kernel
theorem dX12_inserts_16 : decode cX12_inserts 16 = .ok (.iload_n 2, 1) := by decide +kernel
theorem dX12_inserts_17 : decode cX12_inserts 17 = .ok (.iadd, 1) := by decide +kernel
theorem dX12_inserts_18 : decode cX12_inserts 18 = .ok (.iconst 1, 1) := by decide +kernel
theorem dX12_inserts_19 : decode cX12_inserts 19 = .ok (.iastore, 1) := by decide +kernel
theorem dX12_inserts_20 : decode cX12_inserts 20 = .ok (.aload_n 0, 1) := by decide +kernel
theorem dX12_inserts_21 : decode cX12_inserts 21 = .ok (.getfield 33, 3) := by decide +kernel
theorem dX12_inserts_24 : decode cX12_inserts 24 = .ok (.sipush 249, 3) := by decide +kernel
theorem dX12_inserts_27 : decode cX12_inserts 27 = .ok (.iload_n 2, 1) := by decide +kernel
theorem dX12_inserts_28 : decode cX12_inserts 28 = .ok (.iadd, 1) := by decide +kernel
theorem dX12_inserts_29 : decode cX12_inserts 29 = .ok (.aload_n 0, 1) := by decide +kernel
theorem dX12_inserts_30 : decode cX12_inserts 30 = .ok (.getfield 43, 3) := by decide +kernel
theorem dX12_inserts_33 : decode cX12_inserts 33 = .ok (.iload_n 1, 1) := by decide +kernel
theorem dX12_inserts_34 : decode cX12_inserts 34 = .ok (.iconst 1, 1) := by decide +kernel
theorem dX12_inserts_35 : decode cX12_inserts 35 = .ok (.iadd, 1) := by decide +kernel
theorem dX12_inserts_36 : decode cX12_inserts 36 = .ok (.iaload, 1) := by decide +kernel
theorem dX12_inserts_37 : decode cX12_inserts 37 = .ok (.iastore, 1) := by decide +kernel
theorem dX12_inserts_38 : decode cX12_inserts 38 = .ok (.iconst 0, 1) := by decide +kernel
theorem dX12_inserts_39 : decode cX12_inserts 39 = .ok (.istore_n 3, 1) := by decide +kernel
theorem dX12_inserts_40 : decode cX12_inserts 40 = .ok (.iload_n 3, 1) := by decide +kernel
theorem dX12_inserts_41 : decode cX12_inserts 41 = .ok (.iconst 4, 1) := by decide +kernel
theorem dX12_inserts_42 : decode cX12_inserts 42 = .ok (.if_icmp .ge 56, 3) := by decide +kernel
theorem dX12_inserts_45 : decode cX12_inserts 45 = .ok (.aload_n 0, 1) := by decide +kernel
theorem dX12_inserts_46 : decode cX12_inserts 46 = .ok (.getfield 33, 3) := by decide +kernel
theorem dX12_inserts_49 : decode cX12_inserts 49 = .ok (.sipush 348, 3) := by decide +kernel
theorem dX12_inserts_52 : decode cX12_inserts 52 = .ok (.iconst 4, 1) := by decide +kernel
theorem dX12_inserts_53 : decode cX12_inserts 53 = .ok (.iload_n 2, 1) := by decide +kernel
theorem dX12_inserts_54 : decode cX12_inserts 54 = .ok (.imul, 1) := by decide +kernel
theorem dX12_inserts_55 : decode cX12_inserts 55 = .ok (.iadd, 1) := by decide +kernel
theorem dX12_inserts_56 : decode cX12_inserts 56 = .ok (.iload_n 3, 1) := by decide +kernel
theorem dX12_inserts_57 : decode cX12_inserts 57 = .ok (.iadd, 1) := by decide +kernel
theorem dX12_inserts_58 : decode cX12_inserts 58 = .ok (.iload_n 3, 1) := by decide +kernel
theorem dX12_inserts_59 : decode cX12_inserts 59 = .ok (.aload_n 0, 1) := by decide +kernel
theorem dX12_inserts_60 : decode cX12_inserts 60 = .ok (.getfield 33, 3) := by decide +kernel
theorem dX12_inserts_63 : decode cX12_inserts 63 = .ok (.iconst 4, 1) := by decide +kernel
theorem dX12_inserts_64 : decode cX12_inserts 64 = .ok (.aload_n 0, 1) := by decide +kernel
theorem dX12_inserts_65 : decode cX12_inserts 65 = .ok (.getfield 43, 3) := by decide +kernel
theorem dX12_inserts_68 : decode cX12_inserts 68 = .ok (.iload_n 1, 1) := by decide +kernel
theorem dX12_inserts_69 : decode cX12_inserts 69 = .ok (.iconst 1, 1) := by decide +kernel
theorem dX12_inserts_70 : decode cX12_inserts 70 = .ok (.iadd, 1) := by decide +kernel
theorem dX12_inserts_71 : decode cX12_inserts 71 = .ok (.iaload, 1) := by decide +kernel
theorem dX12_inserts_72 : decode cX12_inserts 72 = .ok (.iadd, 1) := by decide +kernel
theorem dX12_inserts_73 : decode cX12_inserts 73 = .ok (.iaload, 1) := by decide +kernel
theorem dX12_inserts_74 : decode cX12_inserts 74 = .ok (.if_icmp .ge 16, 3) := by decide +kernel
theorem dX12_inserts_77 : decode cX12_inserts 77 = .ok (.aload_n 0, 1) := by decide +kernel
theorem dX12_inserts_78 : decode cX12_inserts 78 = .ok (.getfield 43, 3) := by decide +kernel
theorem dX12_inserts_81 : decode cX12_inserts 81 = .ok (.iload_n 1, 1) := by decide +kernel
theorem dX12_inserts_82 : decode cX12_inserts 82 = .ok (.iconst 3, 1) := by decide +kernel
theorem dX12_inserts_83 : decode cX12_inserts 83 = .ok (.iadd, 1) := by decide +kernel
theorem dX12_inserts_84 : decode cX12_inserts 84 = .ok (.iload_n 3, 1) := by decide +kernel
theorem dX12_inserts_85 : decode cX12_inserts 85 = .ok (.iadd, 1) := by decide +kernel
theorem dX12_inserts_86 : decode cX12_inserts 86 = .ok (.iaload, 1) := by decide +kernel
theorem dX12_inserts_87 : decode cX12_inserts 87 = .ok (.goto 4, 3) := by decide +kernel
theorem dX12_inserts_90 : decode cX12_inserts 90 = .ok (.iconst (-1), 1) := by decide +kernel
theorem dX12_inserts_91 : decode cX12_inserts 91 = .ok (.iastore, 1) := by decide +kernel
theorem dX12_inserts_92 : decode cX12_inserts 92 = .ok (.iinc 3 1, 3) := by decide +kernel
theorem dX12_inserts_95 : decode cX12_inserts 95 = .ok (.goto (-55), 3) := by decide +kernel
theorem dX12_inserts_98 : decode cX12_inserts 98 = .ok (.aload_n 0, 1) := by decide +kernel
theorem dX12_inserts_99 : decode cX12_inserts 99 = .ok (.getfield 33, 3) := by decide +kernel
theorem dX12_inserts_102 : decode cX12_inserts 102 = .ok (.sipush 148, 3) := by decide +kernel
theorem dX12_inserts_105 : decode cX12_inserts 105 = .ok (.dup2, 1) := by decide +kernel
theorem dX12_inserts_106 : decode cX12_inserts 106 = .ok (.iaload, 1) := by decide +kernel
theorem dX12_inserts_107 : decode cX12_inserts 107 = .ok (.iconst 1, 1) := by decide +kernel
theorem dX12_inserts_108 : decode cX12_inserts 108 = .ok (.iadd, 1) := by decide +kernel
theorem dX12_inserts_109 : decode cX12_inserts 109 = .ok (.iastore, 1) := by decide +kernel
theorem dX12_inserts_110 : decode cX12_inserts 110 = .ok (.return_, 1) := by decide +kernel
abbrev M_X12_inserts : mM := (cX12_inserts, 4, RX12, none, false, 0, 0, 0, 0)
theorem gX12_inserts : cI yX12_inserts M_X12_inserts 1 := ⟨(wsl_45 _ (List.mem_of_getElem? (i := 5) rfl)), (wsl_45 _ (List.mem_of_getElem? (i := 6) rfl)), (wsl_1 _ (List.mem_of_getElem? (i := 5) rfl)), (wsl_45 _ (List.mem_of_getElem? (i := 7) rfl)), by decide +kernel⟩
noncomputable def fX12_inserts_b91 (h : hH) (a0 a1 l2 l3 s0 s1 s2 : Int) : Option ((hH × Int) ⊕ (hH)) :=
  (aput h s2 s1 s0).bind fun h91 =>
  some (.inl (h91, w32 (l3 + 1)))
noncomputable def fX12_inserts_s40 (h0 : hH) (a0 a1 l2 : Int) : hH × Int → Option ((hH × Int) ⊕ (hH)) := fun (h, l3) =>
  if l3 < 4 then
    (aget h (h a0 9) (w32 (a1 + 1))).bind fun v71 =>
    (aget h (h a0 6) (w32 (4 + v71))).bind fun v73 =>
    if l3 < v73 then
      (aget h (h a0 9) (w32 ((w32 (a1 + 3)) + l3))).bind fun v86 =>
      fX12_inserts_b91 h a0 a1 l2 l3 v86 (w32 ((w32 (348 + (w32 (4 * l2)))) + l3)) (h a0 6)
    else
      fX12_inserts_b91 h a0 a1 l2 l3 (-1) (w32 ((w32 (348 + (w32 (4 * l2)))) + l3)) (h a0 6)
  else
    (aget h (h a0 6) 148).bind fun v106 =>
    (aput h (h a0 6) 148 (w32 (v106 + 1))).bind fun h109 =>
    some (.inr (h109))
noncomputable def fX12_inserts (h : hH) (a0 a1 : Int) : Option (hH) :=
  (aget h (h a0 6) 148).bind fun v7 =>
  (aput h (h a0 6) (w32 (150 + v7)) 1).bind fun h19 =>
  (aget h19 (h19 a0 9) (w32 (a1 + 1))).bind fun v36 =>
  (aput h19 (h19 a0 6) (w32 (249 + v7)) v36).bind fun h37 =>
  lpO (fX12_inserts_s40 h37 a0 a1 v7) (h37, 0)
section M_X12_inserts
variable {p : Program} {l : Launch} {e : Env} {R : Room} {s : State} {m : MethodId} {args : Array Value} {below : List Frame} {meth : Method} {c : Code} {D : va_G} {G : gG} {A : Nat → Prop} {H0 : Heap} {n0 : Int} {x : Option vV × hH} {h : hH}
set_option maxRecDepth 100000 in
set_option maxHeartbeats 4000000 in
theorem oX12_inserts_b91 {a0 a1 l2 l3 s0 s1 s2 : Int} {K : (hH × Int) ⊕ (hH) → Prop} (k0 : ∀ r, K (.inr (r)) → x = (none, r)) (k1 : ∀ (h : hH) (l3 : Int), K (.inl (h, l3)) → Wq p l e R s m args below meth c D G A H0 true n0 M_X12_inserts x 0 0 40 [(0, (22, a0)), (1, (0, a1)), (2, (0, l2)), (3, (0, l3))] [] h) {r : (hH × Int) ⊕ (hH)} (hr : fX12_inserts_b91 h a0 a1 l2 l3 s0 s1 s2 = some r) (hk : K r) : Wq p l e R s m args below meth c D G A H0 true n0 M_X12_inserts x 0 0 91 [(0, (22, a0)), (1, (0, a1)), (2, (0, l2)), (3, (0, l3))] [(0, s0), (0, s1), (50, s2)] h := by
  unfold fX12_inserts_b91 at hr
  obtain ⟨h91, hg91, hr⟩ := bnd hr
  refine r_iast dX12_inserts_91 hg91 ?_
  refine r_iinc (k := 3) (v := l3) dX12_inserts_92 rfl (by decide) (lv' := [(3, (0, w32 (l3 + 1))), (0, (22, a0)), (1, (0, a1)), (2, (0, l2))]) rfl ?_
  refine r_goto dX12_inserts_95 (tgt := 40) (by decide) ?_
  refine r_sub [1, 2, 3, 0] (lv' := [(0, (22, a0)), (1, (0, a1)), (2, (0, l2)), (3, (0, w32 (l3 + 1)))]) rfl ?_
  obtain rfl := Option.some.inj hr
  exact k1 _ _ hk
set_option maxRecDepth 100000 in
set_option maxHeartbeats 4000000 in
theorem oX12_inserts_s40 {h0 : hH} {a0 a1 l2 l3 : Int} {K : (hH × Int) ⊕ (hH) → Prop} (k0 : ∀ r, K (.inr (r)) → x = (none, r)) (k1 : ∀ (h : hH) (l3 : Int), K (.inl (h, l3)) → Wq p l e R s m args below meth c D G A H0 true n0 M_X12_inserts x 0 0 40 [(0, (22, a0)), (1, (0, a1)), (2, (0, l2)), (3, (0, l3))] [] h) {r : (hH × Int) ⊕ (hH)} (hr : fX12_inserts_s40 h0 a0 a1 l2 (h, l3) = some r) (hk : K r) : Wq p l e R s m args below meth c D G A H0 true n0 M_X12_inserts x 0 0 40 [(0, (22, a0)), (1, (0, a1)), (2, (0, l2)), (3, (0, l3))] [] h := by
  unfold fX12_inserts_s40 at hr
  refine r_iload_n dX12_inserts_40 rfl 3 rfl (Or.inl rfl) ?_
  refine r_iconst dX12_inserts_41 (by decide) ?_
  refine r_icmp_ge dX12_inserts_42 (tgt := 98) (by decide) (fun hc => ?_) (fun hc => ?_)
  · have hr := ifn hr hc
    refine r_aload_n dX12_inserts_98 rfl 0 rfl (nl rfl) ?_
    refine r_get 12 6 (o := a0) (w := (50, h a0 6)) (T := TX12) (ref := "FollowingRefsModel") rfl (by decide) rfl (by decide) inlX12 (wsl_7 _ (List.mem_of_getElem? (i := 8) rfl)) rfl dX12_inserts_99 rfl ?_
    refine r_sipush dX12_inserts_102 (by decide) (by decide) ?_
    refine r_dup2 dX12_inserts_105 (Nat.ne_of_beq_eq_false rfl) (Nat.ne_of_beq_eq_false rfl) ?_
    obtain ⟨v106, hg106, hr⟩ := bnd hr
    refine r_iald dX12_inserts_106 hg106 ?_
    refine r_iconst dX12_inserts_107 (by decide) ?_
    refine r_iadd dX12_inserts_108 ?_
    obtain ⟨h109, hg109, hr⟩ := bnd hr
    refine r_iast dX12_inserts_109 hg109 ?_
    obtain rfl := Option.some.inj hr
    exact r_vret dX12_inserts_110 rfl (k0 _ hk) ⟨rfl, rfl⟩
  · have hr := ifp hr hc
    refine r_aload_n dX12_inserts_45 rfl 0 rfl (nl rfl) ?_
    refine r_get 12 6 (o := a0) (w := (50, h a0 6)) (T := TX12) (ref := "FollowingRefsModel") rfl (by decide) rfl (by decide) inlX12 (wsl_7 _ (List.mem_of_getElem? (i := 8) rfl)) rfl dX12_inserts_46 rfl ?_
    refine r_sipush dX12_inserts_49 (by decide) (by decide) ?_
    refine r_iconst dX12_inserts_52 (by decide) ?_
    refine r_iload_n dX12_inserts_53 rfl 2 rfl (Or.inl rfl) ?_
    refine r_imul dX12_inserts_54 ?_
    refine r_iadd dX12_inserts_55 ?_
    refine r_iload_n dX12_inserts_56 rfl 3 rfl (Or.inl rfl) ?_
    refine r_iadd dX12_inserts_57 ?_
    refine r_iload_n dX12_inserts_58 rfl 3 rfl (Or.inl rfl) ?_
    refine r_aload_n dX12_inserts_59 rfl 0 rfl (nl rfl) ?_
    refine r_get 12 6 (o := a0) (w := (50, h a0 6)) (T := TX12) (ref := "FollowingRefsModel") rfl (by decide) rfl (by decide) inlX12 (wsl_7 _ (List.mem_of_getElem? (i := 8) rfl)) rfl dX12_inserts_60 rfl ?_
    refine r_iconst dX12_inserts_63 (by decide) ?_
    refine r_aload_n dX12_inserts_64 rfl 0 rfl (nl rfl) ?_
    refine r_get 12 9 (o := a0) (w := (50, h a0 9)) (T := TX12) (ref := "FollowingRefsModel") rfl (by decide) rfl (by decide) inlX12 (wsl_7 _ (List.mem_of_getElem? (i := 11) rfl)) rfl dX12_inserts_65 rfl ?_
    refine r_iload_n dX12_inserts_68 rfl 1 rfl (Or.inl rfl) ?_
    refine r_iconst dX12_inserts_69 (by decide) ?_
    refine r_iadd dX12_inserts_70 ?_
    obtain ⟨v71, hg71, hr⟩ := bnd hr
    refine r_iald dX12_inserts_71 hg71 ?_
    refine r_iadd dX12_inserts_72 ?_
    obtain ⟨v73, hg73, hr⟩ := bnd hr
    refine r_iald dX12_inserts_73 hg73 ?_
    refine r_icmp_ge dX12_inserts_74 (tgt := 90) (by decide) (fun hc => ?_) (fun hc => ?_)
    · have hr := ifn hr hc
      refine r_iconst dX12_inserts_90 (by decide) ?_
      exact oX12_inserts_b91 (K := K) (fun r z => k0 r z) (fun _ _ z => k1 _ _ z) hr hk
    · have hr := ifp hr hc
      refine r_aload_n dX12_inserts_77 rfl 0 rfl (nl rfl) ?_
      refine r_get 12 9 (o := a0) (w := (50, h a0 9)) (T := TX12) (ref := "FollowingRefsModel") rfl (by decide) rfl (by decide) inlX12 (wsl_7 _ (List.mem_of_getElem? (i := 11) rfl)) rfl dX12_inserts_78 rfl ?_
      refine r_iload_n dX12_inserts_81 rfl 1 rfl (Or.inl rfl) ?_
      refine r_iconst dX12_inserts_82 (by decide) ?_
      refine r_iadd dX12_inserts_83 ?_
      refine r_iload_n dX12_inserts_84 rfl 3 rfl (Or.inl rfl) ?_
      refine r_iadd dX12_inserts_85 ?_
      obtain ⟨v86, hg86, hr⟩ := bnd hr
      refine r_iald dX12_inserts_86 hg86 ?_
      refine r_goto dX12_inserts_87 (tgt := 91) (by decide) ?_
      exact oX12_inserts_b91 (K := K) (fun r z => k0 r z) (fun _ _ z => k1 _ _ z) hr hk
set_option maxRecDepth 100000 in
set_option maxHeartbeats 4000000 in
theorem oX12_inserts_b0 {a0 a1 : Int} {K : hH → Prop} (k0 : ∀ r, K (r) → x = (none, r)) {r : hH} (hr : fX12_inserts h a0 a1 = some r) (hk : K r) : Wq p l e R s m args below meth c D G A H0 true n0 M_X12_inserts x 0 0 0 [(0, (22, a0)), (1, (0, a1))] [] h := by
  unfold fX12_inserts at hr
  refine r_aload_n dX12_inserts_0 rfl 0 rfl (nl rfl) ?_
  refine r_get 12 6 (o := a0) (w := (50, h a0 6)) (T := TX12) (ref := "FollowingRefsModel") rfl (by decide) rfl (by decide) inlX12 (wsl_7 _ (List.mem_of_getElem? (i := 8) rfl)) rfl dX12_inserts_1 rfl ?_
  refine r_sipush dX12_inserts_4 (by decide) (by decide) ?_
  obtain ⟨v7, hg7, hr⟩ := bnd hr
  refine r_iald dX12_inserts_7 hg7 ?_
  refine r_istore_n dX12_inserts_8 rfl (Or.inl rfl) (by decide) (lv' := [(2, (0, v7)), (0, (22, a0)), (1, (0, a1))]) rfl ?_
  refine r_aload_n dX12_inserts_9 rfl 1 rfl (nl rfl) ?_
  refine r_get 12 6 (o := a0) (w := (50, h a0 6)) (T := TX12) (ref := "FollowingRefsModel") rfl (by decide) rfl (by decide) inlX12 (wsl_7 _ (List.mem_of_getElem? (i := 8) rfl)) rfl dX12_inserts_10 rfl ?_
  refine r_sipush dX12_inserts_13 (by decide) (by decide) ?_
  refine r_iload_n dX12_inserts_16 rfl 0 rfl (Or.inl rfl) ?_
  refine r_iadd dX12_inserts_17 ?_
  refine r_iconst dX12_inserts_18 (by decide) ?_
  obtain ⟨h19, hg19, hr⟩ := bnd hr
  refine r_iast dX12_inserts_19 hg19 ?_
  refine r_aload_n dX12_inserts_20 rfl 1 rfl (nl rfl) ?_
  refine r_get 12 6 (o := a0) (w := (50, h19 a0 6)) (T := TX12) (ref := "FollowingRefsModel") rfl (by decide) rfl (by decide) inlX12 (wsl_7 _ (List.mem_of_getElem? (i := 8) rfl)) rfl dX12_inserts_21 rfl ?_
  refine r_sipush dX12_inserts_24 (by decide) (by decide) ?_
  refine r_iload_n dX12_inserts_27 rfl 0 rfl (Or.inl rfl) ?_
  refine r_iadd dX12_inserts_28 ?_
  refine r_aload_n dX12_inserts_29 rfl 1 rfl (nl rfl) ?_
  refine r_get 12 9 (o := a0) (w := (50, h19 a0 9)) (T := TX12) (ref := "FollowingRefsModel") rfl (by decide) rfl (by decide) inlX12 (wsl_7 _ (List.mem_of_getElem? (i := 11) rfl)) rfl dX12_inserts_30 rfl ?_
  refine r_iload_n dX12_inserts_33 rfl 2 rfl (Or.inl rfl) ?_
  refine r_iconst dX12_inserts_34 (by decide) ?_
  refine r_iadd dX12_inserts_35 ?_
  obtain ⟨v36, hg36, hr⟩ := bnd hr
  refine r_iald dX12_inserts_36 hg36 ?_
  obtain ⟨h37, hg37, hr⟩ := bnd hr
  refine r_iast dX12_inserts_37 hg37 ?_
  refine r_iconst dX12_inserts_38 (by decide) ?_
  refine r_istore_n dX12_inserts_39 rfl (Or.inl rfl) (by decide) (lv' := [(3, (0, 0)), (2, (0, v7)), (0, (22, a0)), (1, (0, a1))]) rfl ?_
  refine r_sub [2, 3, 1, 0] (lv' := [(0, (22, a0)), (1, (0, a1)), (2, (0, v7)), (3, (0, 0))]) rfl ?_
  exact lp_ok (w := fun (q : hH × Int) => Wq p l e R s m args below meth c D G A H0 true n0 M_X12_inserts x 0 0 40 [(0, (22, a0)), (1, (0, a1)), (2, (0, v7)), (3, (0, q.2))] [] (q.1)) (K := K) (fun ⟨q0, q1⟩ r h1 h2 => oX12_inserts_s40 (K := Sum.elim (fun (q : hH × Int) => Wq p l e R s m args below meth c D G A H0 true n0 M_X12_inserts x 0 0 40 [(0, (22, a0)), (1, (0, a1)), (2, (0, v7)), (3, (0, q.2))] [] (q.1)) (K)) (fun r z => k0 r z) (fun _ _ z => z) h1 h2) hr hk
end M_X12_inserts
theorem oX12_inserts {l : Launch} {D : va_G} {G : gG} {h : hH} {a0 a1 : Int} {r : hH} (hr : fX12_inserts h a0 a1 = some r) : Ctr l D G true yX12_inserts M_X12_inserts [(22, a0), (0, a1)] h (none, r) :=
  Ctr_of (by decide) rfl (fun z => by cases z) (nl rfl) (fun {p e R s m args below meth c A H0} => by
    exact oX12_inserts_b0 (K := fun z9 => z9 = r) (fun r9 z => by rw [z]) hr rfl)
/-! X12_doesAll -/
theorem dX12_doesAll_0 : decode cX12_doesAll 0 = .ok (.iconst 0, 1) := by decide +kernel
theorem dX12_doesAll_1 : decode cX12_doesAll 1 = .ok (.istore_n 1, 1) := by decide +kernel
theorem dX12_doesAll_2 : decode cX12_doesAll 2 = .ok (.iconst 0, 1) := by decide +kernel
theorem dX12_doesAll_3 : decode cX12_doesAll 3 = .ok (.istore_n 2, 1) := by decide +kernel
theorem dX12_doesAll_4 : decode cX12_doesAll 4 = .ok (.iload_n 2, 1) := by decide +kernel
theorem dX12_doesAll_5 : decode cX12_doesAll 5 = .ok (.bipush 99, 2) := by decide +kernel
theorem dX12_doesAll_7 : decode cX12_doesAll 7 = .ok (.if_icmp .ge 134, 3) := by decide +kernel
theorem dX12_doesAll_10 : decode cX12_doesAll 10 = .ok (.aload_n 0, 1) := by decide +kernel
theorem dX12_doesAll_11 : decode cX12_doesAll 11 = .ok (.getfield 33, 3) := by decide +kernel
theorem dX12_doesAll_14 : decode cX12_doesAll 14 = .ok (.sipush 150, 3) := by decide +kernel
theorem dX12_doesAll_17 : decode cX12_doesAll 17 = .ok (.iload_n 2, 1) := by decide +kernel
theorem dX12_doesAll_18 : decode cX12_doesAll 18 = .ok (.iadd, 1) := by decide +kernel
theorem dX12_doesAll_19 : decode cX12_doesAll 19 = .ok (.iaload, 1) := by decide +kernel
theorem dX12_doesAll_20 : decode cX12_doesAll 20 = .ok (.ifCond .ne 6, 3) := by decide +kernel
theorem dX12_doesAll_23 : decode cX12_doesAll 23 = .ok (.goto 112, 3) := by decide +kernel
theorem dX12_doesAll_26 : decode cX12_doesAll 26 = .ok (.aload_n 0, 1) := by decide +kernel
theorem dX12_doesAll_27 : decode cX12_doesAll 27 = .ok (.getfield 68, 3) := by decide +kernel
theorem dX12_doesAll_30 : decode cX12_doesAll 30 = .ok (.iload_n 2, 1) := by decide +kernel
theorem dX12_doesAll_31 : decode cX12_doesAll 31 = .ok (.iaload, 1) := by decide +kernel
theorem dX12_doesAll_32 : decode cX12_doesAll 32 = .ok (.ifCond .lt 17, 3) := by decide +kernel
theorem dX12_doesAll_35 : decode cX12_doesAll 35 = .ok (.aload_n 0, 1) := by decide +kernel
theorem dX12_doesAll_36 : decode cX12_doesAll 36 = .ok (.getfield 33, 3) := by decide +kernel
theorem dX12_doesAll_39 : decode cX12_doesAll 39 = .ok (.sipush 150, 3) := by decide +kernel
theorem dX12_doesAll_42 : decode cX12_doesAll 42 = .ok (.iload_n 2, 1) := by decide +kernel
theorem dX12_doesAll_43 : decode cX12_doesAll 43 = .ok (.iadd, 1) := by decide +kernel
theorem dX12_doesAll_44 : decode cX12_doesAll 44 = .ok (.iconst 0, 1) := by decide +kernel
theorem dX12_doesAll_45 : decode cX12_doesAll 45 = .ok (.iastore, 1) := by decide +kernel
theorem dX12_doesAll_46 : decode cX12_doesAll 46 = .ok (.goto 89, 3) := by decide +kernel
theorem dX12_doesAll_49 : decode cX12_doesAll 49 = .ok (.iconst 0, 1) := by decide +kernel
theorem dX12_doesAll_50 : decode cX12_doesAll 50 = .ok (.istore_n 3, 1) := by decide +kernel
theorem dX12_doesAll_51 : decode cX12_doesAll 51 = .ok (.iconst 0, 1) := by decide +kernel
theorem dX12_doesAll_52 : decode cX12_doesAll 52 = .ok (.istore 4, 2) := by decide +kernel
theorem dX12_doesAll_54 : decode cX12_doesAll 54 = .ok (.iload 4, 2) := by decide +kernel
theorem dX12_doesAll_56 : decode cX12_doesAll 56 = .ok (.aload_n 0, 1) := by decide +kernel
theorem dX12_doesAll_57 : decode cX12_doesAll 57 = .ok (.getfield 33, 3) := by decide +kernel
theorem dX12_doesAll_60 : decode cX12_doesAll 60 = .ok (.iconst 4, 1) := by decide +kernel
theorem dX12_doesAll_61 : decode cX12_doesAll 61 = .ok (.aload_n 0, 1) := by decide +kernel
theorem dX12_doesAll_62 : decode cX12_doesAll 62 = .ok (.getfield 33, 3) := by decide +kernel
theorem dX12_doesAll_65 : decode cX12_doesAll 65 = .ok (.sipush 249, 3) := by decide +kernel
theorem dX12_doesAll_68 : decode cX12_doesAll 68 = .ok (.iload_n 2, 1) := by decide +kernel
theorem dX12_doesAll_69 : decode cX12_doesAll 69 = .ok (.iadd, 1) := by decide +kernel
theorem dX12_doesAll_70 : decode cX12_doesAll 70 = .ok (.iaload, 1) := by decide +kernel
theorem dX12_doesAll_71 : decode cX12_doesAll 71 = .ok (.iadd, 1) := by decide +kernel
theorem dX12_doesAll_72 : decode cX12_doesAll 72 = .ok (.iaload, 1) := by decide +kernel
theorem dX12_doesAll_73 : decode cX12_doesAll 73 = .ok (.if_icmp .ge 50, 3) := by decide +kernel
theorem dX12_doesAll_76 : decode cX12_doesAll 76 = .ok (.aload_n 0, 1) := by decide +kernel
theorem dX12_doesAll_77 : decode cX12_doesAll 77 = .ok (.iload_n 2, 1) := by decide +kernel
theorem dX12_doesAll_78 : decode cX12_doesAll 78 = .ok (.iload 4, 2) := by decide +kernel
theorem dX12_doesAll_80 : decode cX12_doesAll 80 = .ok (.invokevirtual 392, 3) := by decide +kernel
theorem dX12_doesAll_83 : decode cX12_doesAll 83 = .ok (.ifCond .ne 6, 3) := by decide +kernel
theorem dX12_doesAll_86 : decode cX12_doesAll 86 = .ok (.goto 31, 3) := by decide +kernel
theorem dX12_doesAll_89 : decode cX12_doesAll 89 = .ok (.aload_n 0, 1) := by decide +kernel
theorem dX12_doesAll_90 : decode cX12_doesAll 90 = .ok (.getfield 33, 3) := by decide +kernel
theorem dX12_doesAll_93 : decode cX12_doesAll 93 = .ok (.sipush 348, 3) := by decide +kernel
theorem dX12_doesAll_96 : decode cX12_doesAll 96 = .ok (.iconst 4, 1) := by decide +kernel
theorem dX12_doesAll_97 : decode cX12_doesAll 97 = .ok (.iload_n 2, 1) := by decide +kernel
theorem dX12_doesAll_98 : decode cX12_doesAll 98 = .ok (.imul, 1) := by decide +kernel
theorem dX12_doesAll_99 : decode cX12_doesAll 99 = .ok (.iadd, 1) := by decide +kernel
theorem dX12_doesAll_100 : decode cX12_doesAll 100 = .ok (.iload 4, 2) := by decide +kernel
theorem dX12_doesAll_102 : decode cX12_doesAll 102 = .ok (.iadd, 1) := by decide +kernel
theorem dX12_doesAll_103 : decode cX12_doesAll 103 = .ok (.aload_n 0, 1) := by decide +kernel
theorem dX12_doesAll_104 : decode cX12_doesAll 104 = .ok (.getfield 62, 3) := by decide +kernel
theorem dX12_doesAll_107 : decode cX12_doesAll 107 = .ok (.iconst 4, 1) := by decide +kernel
theorem dX12_doesAll_108 : decode cX12_doesAll 108 = .ok (.iload_n 2, 1) := by decide +kernel
theorem dX12_doesAll_109 : decode cX12_doesAll 109 = .ok (.imul, 1) := by decide +kernel
theorem dX12_doesAll_110 : decode cX12_doesAll 110 = .ok (.iload 4, 2) := by decide +kernel
theorem dX12_doesAll_112 : decode cX12_doesAll 112 = .ok (.iadd, 1) := by decide +kernel
theorem dX12_doesAll_113 : decode cX12_doesAll 113 = .ok (.iaload, 1) := by decide +kernel
theorem dX12_doesAll_114 : decode cX12_doesAll 114 = .ok (.iastore, 1) := by decide +kernel
theorem dX12_doesAll_115 : decode cX12_doesAll 115 = .ok (.iconst 1, 1) := by decide +kernel
theorem dX12_doesAll_116 : decode cX12_doesAll 116 = .ok (.istore_n 3, 1) := by decide +kernel
theorem dX12_doesAll_117 : decode cX12_doesAll 117 = .ok (.iinc 4 1, 3) := by decide +kernel
theorem dX12_doesAll_120 : decode cX12_doesAll 120 = .ok (.goto (-66), 3) := by decide +kernel
theorem dX12_doesAll_123 : decode cX12_doesAll 123 = .ok (.iload_n 1, 1) := by decide +kernel
theorem dX12_doesAll_124 : decode cX12_doesAll 124 = .ok (.iload_n 3, 1) := by decide +kernel
theorem dX12_doesAll_125 : decode cX12_doesAll 125 = .ok (.ifCond .eq 7, 3) := by decide +kernel
theorem dX12_doesAll_128 : decode cX12_doesAll 128 = .ok (.iconst 1, 1) := by decide +kernel
theorem dX12_doesAll_129 : decode cX12_doesAll 129 = .ok (.goto 4, 3) := by decide +kernel
theorem dX12_doesAll_132 : decode cX12_doesAll 132 = .ok (.iconst 0, 1) := by decide +kernel
theorem dX12_doesAll_133 : decode cX12_doesAll 133 = .ok (.iadd, 1) := by decide +kernel
theorem dX12_doesAll_134 : decode cX12_doesAll 134 = .ok (.istore_n 1, 1) := by decide +kernel
theorem dX12_doesAll_135 : decode cX12_doesAll 135 = .ok (.iinc 2 1, 3) := by decide +kernel
theorem dX12_doesAll_138 : decode cX12_doesAll 138 = .ok (.goto (-134), 3) := by decide +kernel
theorem dX12_doesAll_141 : decode cX12_doesAll 141 = .ok (.iload_n 1, 1) := by decide +kernel
theorem dX12_doesAll_142 : decode cX12_doesAll 142 = .ok (.ireturn, 1) := by decide +kernel
abbrev M_X12_doesAll : mM := (cX12_doesAll, 5, RX12, some .int, false, 2, 44, 0, 0)
theorem gX12_doesAll : cI yX12_doesAll M_X12_doesAll 0 := ⟨(wsl_45 _ (List.mem_of_getElem? (i := 1) rfl)), (wsl_45 _ (List.mem_of_getElem? (i := 2) rfl)), (wsl_1 _ (List.mem_of_getElem? (i := 5) rfl)), (wsl_45 _ (List.mem_of_getElem? (i := 3) rfl)), by decide +kernel⟩
noncomputable def fX12_doesAll_b133 (h : hH) (a0 l2 s0 s1 : Int) : Option ((hH × Int × Int) ⊕ (Int × hH)) :=
  some (.inl (h, w32 (s1 + s0), w32 (l2 + 1)))
noncomputable def fX12_doesAll_s54 (h0 : hH) (a0 l1 l2 : Int) : hH × Int × Int → Option ((hH × Int × Int) ⊕ ((hH × Int × Int) ⊕ (Int × hH))) := fun (h, l3, l4) =>
  (aget h (h a0 6) (w32 (249 + l2))).bind fun v70 =>
  (aget h (h a0 6) (w32 (4 + v70))).bind fun v72 =>
  if l4 < v72 then
    (fX12_isOther h a0 l2 l4).bind fun r80 =>
    if r80 = 0 then
      some (.inl (h, l3, w32 (l4 + 1)))
    else
      (aget h (h a0 27) (w32 ((w32 (4 * l2)) + l4))).bind fun v113 =>
      (aput h (h a0 6) (w32 ((w32 (348 + (w32 (4 * l2)))) + l4)) v113).bind fun h114 =>
      some (.inl (h114, 1, w32 (l4 + 1)))
  else
    if l3 = 0 then
      (fX12_doesAll_b133 h a0 l2 0 l1).map (fun z9 => .inr (z9))
    else
      (fX12_doesAll_b133 h a0 l2 1 l1).map (fun z9 => .inr (z9))
noncomputable def fX12_doesAll_s4 (h0 : hH) (a0 : Int) : hH × Int × Int → Option ((hH × Int × Int) ⊕ (Int × hH)) := fun (h, l1, l2) =>
  if l2 < 99 then
    (aget h (h a0 6) (w32 (150 + l2))).bind fun v19 =>
    if v19 = 0 then
      some (.inl (h, l1, w32 (l2 + 1)))
    else
      (aget h (h a0 29) l2).bind fun v31 =>
      if v31 < 0 then
        lpO (fX12_doesAll_s54 h a0 l1 l2) (h, 0, 0)
      else
        (aput h (h a0 6) (w32 (150 + l2)) 0).bind fun h45 =>
        some (.inl (h45, l1, w32 (l2 + 1)))
  else
    some (.inr ((l1, h)))
noncomputable def fX12_doesAll (h : hH) (a0 : Int) : Option (Int × hH) :=
  lpO (fX12_doesAll_s4 h a0) (h, 0, 0)
section M_X12_doesAll
variable {p : Program} {l : Launch} {e : Env} {R : Room} {s : State} {m : MethodId} {args : Array Value} {below : List Frame} {meth : Method} {c : Code} {D : va_G} {G : gG} {A : Nat → Prop} {H0 : Heap} {n0 : Int} {x : Option vV × hH} {h : hH}
set_option maxRecDepth 100000 in
set_option maxHeartbeats 4000000 in
theorem oX12_doesAll_b133 {a0 l2 s0 s1 : Int} {K : (hH × Int × Int) ⊕ (Int × hH) → Prop} (k0 : ∀ r, K (.inr (r)) → x = (some (0, r.1), r.2)) (k1 : ∀ (h : hH) (l1 : Int) (l2 : Int), K (.inl (h, l1, l2)) → Wq p l e R s m args below meth c D G A H0 true n0 M_X12_doesAll x 0 0 4 [(0, (22, a0)), (1, (0, l1)), (2, (0, l2))] [] h) {r : (hH × Int × Int) ⊕ (Int × hH)} (hr : fX12_doesAll_b133 h a0 l2 s0 s1 = some r) (hk : K r) : Wq p l e R s m args below meth c D G A H0 true n0 M_X12_doesAll x 0 0 133 [(0, (22, a0)), (2, (0, l2))] [(2, s0), (0, s1)] h := by
  unfold fX12_doesAll_b133 at hr
  refine r_scast 0 (v := (2, s0)) (w := (0, s0)) rfl zc hTz (st' := [(0, s0), (0, s1)]) rfl ?_
  refine r_iadd dX12_doesAll_133 ?_
  refine r_istore_n dX12_doesAll_134 rfl (Or.inl rfl) (by decide) (lv' := [(1, (0, w32 (s1 + s0))), (0, (22, a0)), (2, (0, l2))]) rfl ?_
  refine r_iinc (k := 2) (v := l2) dX12_doesAll_135 rfl (by decide) (lv' := [(2, (0, w32 (l2 + 1))), (1, (0, w32 (s1 + s0))), (0, (22, a0))]) rfl ?_
  refine r_goto dX12_doesAll_138 (tgt := 4) (by decide) ?_
  refine r_sub [2, 1, 0] (lv' := [(0, (22, a0)), (1, (0, w32 (s1 + s0))), (2, (0, w32 (l2 + 1)))]) rfl ?_
  obtain rfl := Option.some.inj hr
  exact k1 _ _ _ hk
set_option maxRecDepth 100000 in
set_option maxHeartbeats 4000000 in
theorem oX12_doesAll_s54 {h0 : hH} {a0 l1 l2 l3 l4 : Int} {K : (hH × Int × Int) ⊕ ((hH × Int × Int) ⊕ (Int × hH)) → Prop} (k0 : ∀ r, K (.inr (.inr (r))) → x = (some (0, r.1), r.2)) (k1 : ∀ (h : hH) (l1 : Int) (l2 : Int), K (.inr (.inl (h, l1, l2))) → Wq p l e R s m args below meth c D G A H0 true n0 M_X12_doesAll x 0 0 4 [(0, (22, a0)), (1, (0, l1)), (2, (0, l2))] [] h) (k2 : ∀ (h : hH) (l3 : Int) (l4 : Int), K (.inl (h, l3, l4)) → Wq p l e R s m args below meth c D G A H0 true n0 M_X12_doesAll x 0 0 54 [(0, (22, a0)), (1, (0, l1)), (2, (0, l2)), (3, (2, l3)), (4, (0, l4))] [] h) {r : (hH × Int × Int) ⊕ ((hH × Int × Int) ⊕ (Int × hH))} (hr : fX12_doesAll_s54 h0 a0 l1 l2 (h, l3, l4) = some r) (hk : K r) : Wq p l e R s m args below meth c D G A H0 true n0 M_X12_doesAll x 0 0 54 [(0, (22, a0)), (1, (0, l1)), (2, (0, l2)), (3, (2, l3)), (4, (0, l4))] [] h := by
  unfold fX12_doesAll_s54 at hr
  refine r_iload dX12_doesAll_54 4 rfl (Or.inl rfl) ?_
  refine r_aload_n dX12_doesAll_56 rfl 0 rfl (nl rfl) ?_
  refine r_get 12 6 (o := a0) (w := (50, h a0 6)) (T := TX12) (ref := "FollowingRefsModel") rfl (by decide) rfl (by decide) inlX12 (wsl_7 _ (List.mem_of_getElem? (i := 8) rfl)) rfl dX12_doesAll_57 rfl ?_
  refine r_iconst dX12_doesAll_60 (by decide) ?_
  refine r_aload_n dX12_doesAll_61 rfl 0 rfl (nl rfl) ?_
  refine r_get 12 6 (o := a0) (w := (50, h a0 6)) (T := TX12) (ref := "FollowingRefsModel") rfl (by decide) rfl (by decide) inlX12 (wsl_7 _ (List.mem_of_getElem? (i := 8) rfl)) rfl dX12_doesAll_62 rfl ?_
  refine r_sipush dX12_doesAll_65 (by decide) (by decide) ?_
  refine r_iload_n dX12_doesAll_68 rfl 2 rfl (Or.inl rfl) ?_
  refine r_iadd dX12_doesAll_69 ?_
  obtain ⟨v70, hg70, hr⟩ := bnd hr
  refine r_iald dX12_doesAll_70 hg70 ?_
  refine r_iadd dX12_doesAll_71 ?_
  obtain ⟨v72, hg72, hr⟩ := bnd hr
  refine r_iald dX12_doesAll_72 hg72 ?_
  refine r_icmp_ge dX12_doesAll_73 (tgt := 123) (by decide) (fun hc => ?_) (fun hc => ?_)
  · have hr := ifn hr hc
    refine r_iload_n dX12_doesAll_123 rfl 1 rfl (Or.inl rfl) ?_
    refine r_iload_n dX12_doesAll_124 rfl 3 rfl (Or.inr rfl) ?_
    refine r_scast 0 (v := (2, l3)) (w := (0, l3)) rfl zc hTz (st' := [(0, l3), (0, l1)]) rfl ?_
    refine r_if_eq dX12_doesAll_125 (tgt := 132) (by decide) (fun hc => ?_) (fun hc => ?_)
    · have hr := ifp hr hc
      refine r_iconst dX12_doesAll_132 (by decide) ?_
      refine r_sub [0, 2] (lv' := [(0, (22, a0)), (2, (0, l2))]) rfl ?_
      refine r_scast 0 (v := (0, 0)) (w := (2, 0)) rfl cz (fun _ => Or.inl rfl) (st' := [(2, 0), (0, l1)]) rfl ?_
      obtain ⟨r9, hr9, rfl⟩ := mpp hr
      exact oX12_doesAll_b133 (K := fun z9 => K (.inr (z9))) (fun r z => k0 r z) (fun _ _ _ z => k1 _ _ _ z) hr9 hk
    · have hr := ifn hr hc
      refine r_iconst dX12_doesAll_128 (by decide) ?_
      refine r_goto dX12_doesAll_129 (tgt := 133) (by decide) ?_
      refine r_sub [0, 2] (lv' := [(0, (22, a0)), (2, (0, l2))]) rfl ?_
      refine r_scast 0 (v := (0, 1)) (w := (2, 1)) rfl cz (fun _ => Or.inr rfl) (st' := [(2, 1), (0, l1)]) rfl ?_
      obtain ⟨r9, hr9, rfl⟩ := mpp hr
      exact oX12_doesAll_b133 (K := fun z9 => K (.inr (z9))) (fun r z => k0 r z) (fun _ _ _ z => k1 _ _ _ z) hr9 hk
  · have hr := ifp hr hc
    refine r_aload_n dX12_doesAll_76 rfl 0 rfl (nl rfl) ?_
    refine r_iload_n dX12_doesAll_77 rfl 2 rfl (Or.inl rfl) ?_
    refine r_iload dX12_doesAll_78 4 rfl (Or.inl rfl) ?_
    obtain ⟨r80, hg80, hr⟩ := bnd hr
    refine k_V (ci := 12) (o := a0) (T := TX12) (as := [(0, l2), (0, l4)]) (rest := []) (X := (some (2, r80), h)) (oX12_isOther hg80) gX12_isOther rfl (by decide) rfl (wsl_44 _ (List.mem_of_getElem? (i := 12) rfl)) rfl dX12_doesAll_80 rfl ?_
    refine r_scast 0 (v := (2, r80)) (w := (0, r80)) rfl zc hTz (st' := [(0, r80)]) rfl ?_
    refine r_if_ne dX12_doesAll_83 (tgt := 89) (by decide) (fun hc => ?_) (fun hc => ?_)
    · have hr := ifn hr hc
      refine r_aload_n dX12_doesAll_89 rfl 0 rfl (nl rfl) ?_
      refine r_get 12 6 (o := a0) (w := (50, h a0 6)) (T := TX12) (ref := "FollowingRefsModel") rfl (by decide) rfl (by decide) inlX12 (wsl_7 _ (List.mem_of_getElem? (i := 8) rfl)) rfl dX12_doesAll_90 rfl ?_
      refine r_sipush dX12_doesAll_93 (by decide) (by decide) ?_
      refine r_iconst dX12_doesAll_96 (by decide) ?_
      refine r_iload_n dX12_doesAll_97 rfl 2 rfl (Or.inl rfl) ?_
      refine r_imul dX12_doesAll_98 ?_
      refine r_iadd dX12_doesAll_99 ?_
      refine r_iload dX12_doesAll_100 4 rfl (Or.inl rfl) ?_
      refine r_iadd dX12_doesAll_102 ?_
      refine r_aload_n dX12_doesAll_103 rfl 0 rfl (nl rfl) ?_
      refine r_get 12 27 (o := a0) (w := (50, h a0 27)) (T := TX12) (ref := "FollowingRefsModel") rfl (by decide) rfl (by decide) inlX12 (wsl_7 _ (List.mem_of_getElem? (i := 17) rfl)) rfl dX12_doesAll_104 rfl ?_
      refine r_iconst dX12_doesAll_107 (by decide) ?_
      refine r_iload_n dX12_doesAll_108 rfl 2 rfl (Or.inl rfl) ?_
      refine r_imul dX12_doesAll_109 ?_
      refine r_iload dX12_doesAll_110 4 rfl (Or.inl rfl) ?_
      refine r_iadd dX12_doesAll_112 ?_
      obtain ⟨v113, hg113, hr⟩ := bnd hr
      refine r_iald dX12_doesAll_113 hg113 ?_
      obtain ⟨h114, hg114, hr⟩ := bnd hr
      refine r_iast dX12_doesAll_114 hg114 ?_
      refine r_iconst dX12_doesAll_115 (by decide) ?_
      refine r_istore_n dX12_doesAll_116 rfl (Or.inl rfl) (by decide) (lv' := [(3, (0, 1)), (0, (22, a0)), (1, (0, l1)), (2, (0, l2)), (4, (0, l4))]) rfl ?_
      refine r_iinc (k := 4) (v := l4) dX12_doesAll_117 rfl (by decide) (lv' := [(4, (0, w32 (l4 + 1))), (3, (0, 1)), (0, (22, a0)), (1, (0, l1)), (2, (0, l2))]) rfl ?_
      refine r_goto dX12_doesAll_120 (tgt := 54) (by decide) ?_
      refine r_lcast 1 (v := (0, 1)) (w := (2, 1)) rfl cz (fun _ => Or.inr rfl) (lv' := [(4, (0, w32 (l4 + 1))), (3, (2, 1)), (0, (22, a0)), (1, (0, l1)), (2, (0, l2))]) rfl ?_
      refine r_sub [2, 3, 4, 1, 0] (lv' := [(0, (22, a0)), (1, (0, l1)), (2, (0, l2)), (3, (2, 1)), (4, (0, w32 (l4 + 1)))]) rfl ?_
      obtain rfl := Option.some.inj hr
      exact k2 _ _ _ hk
    · have hr := ifp hr hc
      refine r_goto dX12_doesAll_86 (tgt := 117) (by decide) ?_
      refine r_iinc (k := 4) (v := l4) dX12_doesAll_117 rfl (by decide) (lv' := [(4, (0, w32 (l4 + 1))), (0, (22, a0)), (1, (0, l1)), (2, (0, l2)), (3, (2, l3))]) rfl ?_
      refine r_goto dX12_doesAll_120 (tgt := 54) (by decide) ?_
      refine r_sub [1, 2, 3, 4, 0] (lv' := [(0, (22, a0)), (1, (0, l1)), (2, (0, l2)), (3, (2, l3)), (4, (0, w32 (l4 + 1)))]) rfl ?_
      obtain rfl := Option.some.inj hr
      exact k2 _ _ _ hk
set_option maxRecDepth 100000 in
set_option maxHeartbeats 4000000 in
theorem oX12_doesAll_s4 {h0 : hH} {a0 l1 l2 : Int} {K : (hH × Int × Int) ⊕ (Int × hH) → Prop} (k0 : ∀ r, K (.inr (r)) → x = (some (0, r.1), r.2)) (k1 : ∀ (h : hH) (l1 : Int) (l2 : Int), K (.inl (h, l1, l2)) → Wq p l e R s m args below meth c D G A H0 true n0 M_X12_doesAll x 0 0 4 [(0, (22, a0)), (1, (0, l1)), (2, (0, l2))] [] h) {r : (hH × Int × Int) ⊕ (Int × hH)} (hr : fX12_doesAll_s4 h0 a0 (h, l1, l2) = some r) (hk : K r) : Wq p l e R s m args below meth c D G A H0 true n0 M_X12_doesAll x 0 0 4 [(0, (22, a0)), (1, (0, l1)), (2, (0, l2))] [] h := by
  unfold fX12_doesAll_s4 at hr
  refine r_iload_n dX12_doesAll_4 rfl 2 rfl (Or.inl rfl) ?_
  refine r_bipush dX12_doesAll_5 (by decide) (by decide) ?_
  refine r_icmp_ge dX12_doesAll_7 (tgt := 141) (by decide) (fun hc => ?_) (fun hc => ?_)
  · have hr := ifn hr hc
    refine r_iload_n dX12_doesAll_141 rfl 1 rfl (Or.inl rfl) ?_
    obtain rfl := Option.some.inj hr
    exact r_ret dX12_doesAll_142 rfl (Or.inl ⟨rfl, rfl⟩) (k0 _ hk) ⟨rfl, rfl⟩
  · have hr := ifp hr hc
    refine r_aload_n dX12_doesAll_10 rfl 0 rfl (nl rfl) ?_
    refine r_get 12 6 (o := a0) (w := (50, h a0 6)) (T := TX12) (ref := "FollowingRefsModel") rfl (by decide) rfl (by decide) inlX12 (wsl_7 _ (List.mem_of_getElem? (i := 8) rfl)) rfl dX12_doesAll_11 rfl ?_
    refine r_sipush dX12_doesAll_14 (by decide) (by decide) ?_
    refine r_iload_n dX12_doesAll_17 rfl 2 rfl (Or.inl rfl) ?_
    refine r_iadd dX12_doesAll_18 ?_
    obtain ⟨v19, hg19, hr⟩ := bnd hr
    refine r_iald dX12_doesAll_19 hg19 ?_
    refine r_if_ne dX12_doesAll_20 (tgt := 26) (by decide) (fun hc => ?_) (fun hc => ?_)
    · have hr := ifn hr hc
      refine r_aload_n dX12_doesAll_26 rfl 0 rfl (nl rfl) ?_
      refine r_get 12 29 (o := a0) (w := (50, h a0 29)) (T := TX12) (ref := "FollowingRefsModel") rfl (by decide) rfl (by decide) inlX12 (wsl_7 _ (List.mem_of_getElem? (i := 19) rfl)) rfl dX12_doesAll_27 rfl ?_
      refine r_iload_n dX12_doesAll_30 rfl 2 rfl (Or.inl rfl) ?_
      obtain ⟨v31, hg31, hr⟩ := bnd hr
      refine r_iald dX12_doesAll_31 hg31 ?_
      refine r_if_lt dX12_doesAll_32 (tgt := 49) (by decide) (fun hc => ?_) (fun hc => ?_)
      · have hr := ifp hr hc
        refine r_iconst dX12_doesAll_49 (by decide) ?_
        refine r_istore_n dX12_doesAll_50 rfl (Or.inl rfl) (by decide) (lv' := [(3, (0, 0)), (0, (22, a0)), (1, (0, l1)), (2, (0, l2))]) rfl ?_
        refine r_iconst dX12_doesAll_51 (by decide) ?_
        refine r_istore dX12_doesAll_52 (Or.inl rfl) (by decide) (lv' := [(4, (0, 0)), (3, (0, 0)), (0, (22, a0)), (1, (0, l1)), (2, (0, l2))]) rfl ?_
        refine r_lcast 1 (v := (0, 0)) (w := (2, 0)) rfl cz (fun _ => Or.inl rfl) (lv' := [(4, (0, 0)), (3, (2, 0)), (0, (22, a0)), (1, (0, l1)), (2, (0, l2))]) rfl ?_
        refine r_sub [2, 3, 4, 1, 0] (lv' := [(0, (22, a0)), (1, (0, l1)), (2, (0, l2)), (3, (2, 0)), (4, (0, 0))]) rfl ?_
        exact lp_ok (w := fun (q : hH × Int × Int) => Wq p l e R s m args below meth c D G A H0 true n0 M_X12_doesAll x 0 0 54 [(0, (22, a0)), (1, (0, l1)), (2, (0, l2)), (3, (2, q.2.1)), (4, (0, q.2.2))] [] (q.1)) (K := K) (fun ⟨q0, q1, q2⟩ r h1 h2 => oX12_doesAll_s54 (K := Sum.elim (fun (q : hH × Int × Int) => Wq p l e R s m args below meth c D G A H0 true n0 M_X12_doesAll x 0 0 54 [(0, (22, a0)), (1, (0, l1)), (2, (0, l2)), (3, (2, q.2.1)), (4, (0, q.2.2))] [] (q.1)) (K)) (fun r z => k0 r z) (fun _ _ _ z => k1 _ _ _ z) (fun _ _ _ z => z) h1 h2) hr hk
      · have hr := ifn hr hc
        refine r_aload_n dX12_doesAll_35 rfl 0 rfl (nl rfl) ?_
        refine r_get 12 6 (o := a0) (w := (50, h a0 6)) (T := TX12) (ref := "FollowingRefsModel") rfl (by decide) rfl (by decide) inlX12 (wsl_7 _ (List.mem_of_getElem? (i := 8) rfl)) rfl dX12_doesAll_36 rfl ?_
        refine r_sipush dX12_doesAll_39 (by decide) (by decide) ?_
        refine r_iload_n dX12_doesAll_42 rfl 2 rfl (Or.inl rfl) ?_
        refine r_iadd dX12_doesAll_43 ?_
        refine r_iconst dX12_doesAll_44 (by decide) ?_
        obtain ⟨h45, hg45, hr⟩ := bnd hr
        refine r_iast dX12_doesAll_45 hg45 ?_
        refine r_goto dX12_doesAll_46 (tgt := 135) (by decide) ?_
        refine r_iinc (k := 2) (v := l2) dX12_doesAll_135 rfl (by decide) (lv' := [(2, (0, w32 (l2 + 1))), (0, (22, a0)), (1, (0, l1))]) rfl ?_
        refine r_goto dX12_doesAll_138 (tgt := 4) (by decide) ?_
        refine r_sub [1, 2, 0] (lv' := [(0, (22, a0)), (1, (0, l1)), (2, (0, w32 (l2 + 1)))]) rfl ?_
        obtain rfl := Option.some.inj hr
        exact k1 _ _ _ hk
    · have hr := ifp hr hc
      refine r_goto dX12_doesAll_23 (tgt := 135) (by decide) ?_
      refine r_iinc (k := 2) (v := l2) dX12_doesAll_135 rfl (by decide) (lv' := [(2, (0, w32 (l2 + 1))), (0, (22, a0)), (1, (0, l1))]) rfl ?_
      refine r_goto dX12_doesAll_138 (tgt := 4) (by decide) ?_
      refine r_sub [1, 2, 0] (lv' := [(0, (22, a0)), (1, (0, l1)), (2, (0, w32 (l2 + 1)))]) rfl ?_
      obtain rfl := Option.some.inj hr
      exact k1 _ _ _ hk
set_option maxRecDepth 100000 in
set_option maxHeartbeats 4000000 in
theorem oX12_doesAll_b0 {a0 : Int} {K : Int × hH → Prop} (k0 : ∀ r, K (r) → x = (some (0, r.1), r.2)) {r : Int × hH} (hr : fX12_doesAll h a0 = some r) (hk : K r) : Wq p l e R s m args below meth c D G A H0 true n0 M_X12_doesAll x 0 0 0 [(0, (22, a0))] [] h := by
  unfold fX12_doesAll at hr
  refine r_iconst dX12_doesAll_0 (by decide) ?_
  refine r_istore_n dX12_doesAll_1 rfl (Or.inl rfl) (by decide) (lv' := [(1, (0, 0)), (0, (22, a0))]) rfl ?_
  refine r_iconst dX12_doesAll_2 (by decide) ?_
  refine r_istore_n dX12_doesAll_3 rfl (Or.inl rfl) (by decide) (lv' := [(2, (0, 0)), (1, (0, 0)), (0, (22, a0))]) rfl ?_
  refine r_sub [2, 1, 0] (lv' := [(0, (22, a0)), (1, (0, 0)), (2, (0, 0))]) rfl ?_
  exact lp_ok (w := fun (q : hH × Int × Int) => Wq p l e R s m args below meth c D G A H0 true n0 M_X12_doesAll x 0 0 4 [(0, (22, a0)), (1, (0, q.2.1)), (2, (0, q.2.2))] [] (q.1)) (K := K) (fun ⟨q0, q1, q2⟩ r h1 h2 => oX12_doesAll_s4 (K := Sum.elim (fun (q : hH × Int × Int) => Wq p l e R s m args below meth c D G A H0 true n0 M_X12_doesAll x 0 0 4 [(0, (22, a0)), (1, (0, q.2.1)), (2, (0, q.2.2))] [] (q.1)) (K)) (fun r z => k0 r z) (fun _ _ _ z => z) h1 h2) hr hk
end M_X12_doesAll
theorem oX12_doesAll {l : Launch} {D : va_G} {G : gG} {h : hH} {a0 : Int} {r : Int × hH} (hr : fX12_doesAll h a0 = some r) : Ctr l D G true yX12_doesAll M_X12_doesAll [(22, a0)] h (some (0, r.1), r.2) :=
  Ctr_of (by decide) rfl (fun z => by cases z) (nl rfl) (fun {p e R s m args below meth c A H0} => by
    exact oX12_doesAll_b0 (K := fun z9 => z9 = r) (fun r9 z => by rw [z]) hr rfl)
/-! X12_judges -/
theorem dX12_judges_0 : decode cX12_judges 0 = .ok (.iconst 0, 1) := by decide +kernel
theorem dX12_judges_1 : decode cX12_judges 1 = .ok (.istore_n 2, 1) := by decide +kernel
theorem dX12_judges_2 : decode cX12_judges 2 = .ok (.iload_n 2, 1) := by decide +kernel
theorem dX12_judges_3 : decode cX12_judges 3 = .ok (.sipush 1091, 3) := by decide +kernel
theorem dX12_judges_6 : decode cX12_judges 6 = .ok (.if_icmp .ge 25, 3) := by decide +kernel
theorem dX12_judges_9 : decode cX12_judges 9 = .ok (.aload_n 0, 1) := by decide +kernel
theorem dX12_judges_10 : decode cX12_judges 10 = .ok (.getfield 71, 3) := by decide +kernel
theorem dX12_judges_13 : decode cX12_judges 13 = .ok (.iload_n 2, 1) := by decide +kernel
theorem dX12_judges_14 : decode cX12_judges 14 = .ok (.aload_n 0, 1) := by decide +kernel
theorem dX12_judges_15 : decode cX12_judges 15 = .ok (.getfield 33, 3) := by decide +kernel
theorem dX12_judges_18 : decode cX12_judges 18 = .ok (.sipush 148, 3) := by decide +kernel
theorem dX12_judges_21 : decode cX12_judges 21 = .ok (.iload_n 2, 1) := by decide +kernel
theorem dX12_judges_22 : decode cX12_judges 22 = .ok (.iadd, 1) := by decide +kernel
theorem dX12_judges_23 : decode cX12_judges 23 = .ok (.iaload, 1) := by decide +kernel
theorem dX12_judges_24 : decode cX12_judges 24 = .ok (.iastore, 1) := by decide +kernel
theorem dX12_judges_25 : decode cX12_judges 25 = .ok (.iinc 2 1, 3) := by decide +kernel
theorem dX12_judges_28 : decode cX12_judges 28 = .ok (.goto (-26), 3) := by decide +kernel
theorem dX12_judges_31 : decode cX12_judges 31 = .ok (.aload_n 0, 1) := by decide +kernel
theorem dX12_judges_32 : decode cX12_judges 32 = .ok (.invokevirtual 402, 3) := by decide +kernel
theorem dX12_judges_35 : decode cX12_judges 35 = .ok (.aload_n 0, 1) := by decide +kernel
theorem dX12_judges_36 : decode cX12_judges 36 = .ok (.iconst 0, 1) := by decide +kernel
theorem dX12_judges_37 : decode cX12_judges 37 = .ok (.putfield 405, 3) := by decide +kernel
theorem dX12_judges_40 : decode cX12_judges 40 = .ok (.aload_n 0, 1) := by decide +kernel
theorem dX12_judges_41 : decode cX12_judges 41 = .ok (.iconst 0, 1) := by decide +kernel
theorem dX12_judges_42 : decode cX12_judges 42 = .ok (.putfield 408, 3) := by decide +kernel
theorem dX12_judges_45 : decode cX12_judges 45 = .ok (.aload_n 0, 1) := by decide +kernel
theorem dX12_judges_46 : decode cX12_judges 46 = .ok (.iconst 0, 1) := by decide +kernel
theorem dX12_judges_47 : decode cX12_judges 47 = .ok (.putfield 411, 3) := by decide +kernel
theorem dX12_judges_50 : decode cX12_judges 50 = .ok (.aload_n 0, 1) := by decide +kernel
theorem dX12_judges_51 : decode cX12_judges 51 = .ok (.iconst 0, 1) := by decide +kernel
theorem dX12_judges_52 : decode cX12_judges 52 = .ok (.putfield 380, 3) := by decide +kernel
theorem dX12_judges_55 : decode cX12_judges 55 = .ok (.aload_n 0, 1) := by decide +kernel
theorem dX12_judges_56 : decode cX12_judges 56 = .ok (.iconst 0, 1) := by decide +kernel
theorem dX12_judges_57 : decode cX12_judges 57 = .ok (.putfield 327, 3) := by decide +kernel
theorem dX12_judges_60 : decode cX12_judges 60 = .ok (.aload_n 0, 1) := by decide +kernel
theorem dX12_judges_61 : decode cX12_judges 61 = .ok (.getfield 43, 3) := by decide +kernel
theorem dX12_judges_64 : decode cX12_judges 64 = .ok (.iload_n 1, 1) := by decide +kernel
theorem dX12_judges_65 : decode cX12_judges 65 = .ok (.iaload, 1) := by decide +kernel
theorem dX12_judges_66 : decode cX12_judges 66 = .ok (.ifCond .ne 28, 3) := by decide +kernel
theorem dX12_judges_69 : decode cX12_judges 69 = .ok (.aload_n 0, 1) := by decide +kernel
theorem dX12_judges_70 : decode cX12_judges 70 = .ok (.invokevirtual 414, 3) := by decide +kernel
theorem dX12_judges_73 : decode cX12_judges 73 = .ok (.bipush 40, 2) := by decide +kernel
theorem dX12_judges_75 : decode cX12_judges 75 = .ok (.if_icmp .eq 16, 3) := by decide +kernel
theorem dX12_judges_78 : decode cX12_judges 78 = .ok (.aload_n 0, 1) := by decide +kernel
theorem dX12_judges_79 : decode cX12_judges 79 = .ok (.getfield 33, 3) := by decide +kernel
theorem dX12_judges_82 : decode cX12_judges 82 = .ok (.sipush 148, 3) := by decide +kernel
theorem dX12_judges_85 : decode cX12_judges 85 = .ok (.iaload, 1) := by decide +kernel
theorem dX12_judges_86 : decode cX12_judges 86 = .ok (.bipush 99, 2) := by decide +kernel
theorem dX12_judges_88 : decode cX12_judges 88 = .ok (.if_icmp .ne 6, 3) := by decide +kernel
theorem dX12_judges_91 : decode cX12_judges 91 = .ok (.bipush 6, 2) := by decide +kernel
theorem dX12_judges_93 : decode cX12_judges 93 = .ok (.ireturn, 1) := by decide +kernel
theorem dX12_judges_94 : decode cX12_judges 94 = .ok (.iconst 0, 1) := by decide +kernel
theorem dX12_judges_95 : decode cX12_judges 95 = .ok (.istore_n 2, 1) := by decide +kernel
theorem dX12_judges_96 : decode cX12_judges 96 = .ok (.iload_n 2, 1) := by decide +kernel
theorem dX12_judges_97 : decode cX12_judges 97 = .ok (.bipush 99, 2) := by decide +kernel
theorem dX12_judges_99 : decode cX12_judges 99 = .ok (.if_icmp .ge 106, 3) := by decide +kernel
theorem dX12_judges_102 : decode cX12_judges 102 = .ok (.aload_n 0, 1) := by decide +kernel
theorem dX12_judges_103 : decode cX12_judges 103 = .ok (.getfield 43, 3) := by decide +kernel
theorem dX12_judges_106 : decode cX12_judges 106 = .ok (.iload_n 1, 1) := by decide +kernel
theorem dX12_judges_107 : decode cX12_judges 107 = .ok (.iaload, 1) := by decide +kernel
theorem dX12_judges_108 : decode cX12_judges 108 = .ok (.ifCond .le 97, 3) := by decide +kernel
theorem dX12_judges_111 : decode cX12_judges 111 = .ok (.aload_n 0, 1) := by decide +kernel
theorem dX12_judges_112 : decode cX12_judges 112 = .ok (.iload_n 2, 1) := by decide +kernel
theorem dX12_judges_113 : decode cX12_judges 113 = .ok (.iload_n 1, 1) := by decide +kernel
theorem dX12_judges_114 : decode cX12_judges 114 = .ok (.invokevirtual 417, 3) := by decide +kernel
theorem dX12_judges_117 : decode cX12_judges 117 = .ok (.ifCond .ne 6, 3) := by decide +kernel
theorem dX12_judges_120 : decode cX12_judges 120 = .ok (.goto 79, 3) := by decide +kernel
theorem dX12_judges_123 : decode cX12_judges 123 = .ok (.aload_n 0, 1) := by decide +kernel
theorem dX12_judges_124 : decode cX12_judges 124 = .ok (.dup, 1) := by decide +kernel
theorem dX12_judges_125 : decode cX12_judges 125 = .ok (.getfield 405, 3) := by decide +kernel
theorem dX12_judges_128 : decode cX12_judges 128 = .ok (.iconst 1, 1) := by decide +kernel
theorem dX12_judges_129 : decode cX12_judges 129 = .ok (.iadd, 1) := by decide +kernel
theorem dX12_judges_130 : decode cX12_judges 130 = .ok (.putfield 405, 3) := by decide +kernel
theorem dX12_judges_133 : decode cX12_judges 133 = .ok (.aload_n 0, 1) := by decide +kernel
theorem dX12_judges_134 : decode cX12_judges 134 = .ok (.getfield 43, 3) := by decide +kernel
theorem dX12_judges_137 : decode cX12_judges 137 = .ok (.iload_n 1, 1) := by decide +kernel
theorem dX12_judges_138 : decode cX12_judges 138 = .ok (.iaload, 1) := by decide +kernel
theorem dX12_judges_139 : decode cX12_judges 139 = .ok (.iconst 1, 1) := by decide +kernel
theorem dX12_judges_140 : decode cX12_judges 140 = .ok (.if_icmp .ne 10, 3) := by decide +kernel
theorem dX12_judges_143 : decode cX12_judges 143 = .ok (.aload_n 0, 1) := by decide +kernel
theorem dX12_judges_144 : decode cX12_judges 144 = .ok (.getfield 68, 3) := by decide +kernel
theorem dX12_judges_147 : decode cX12_judges 147 = .ok (.iload_n 2, 1) := by decide +kernel
theorem dX12_judges_148 : decode cX12_judges 148 = .ok (.iconst 0, 1) := by decide +kernel
theorem dX12_judges_149 : decode cX12_judges 149 = .ok (.iastore, 1) := by decide +kernel
theorem dX12_judges_150 : decode cX12_judges 150 = .ok (.iconst 0, 1) := by decide +kernel
theorem dX12_judges_151 : decode cX12_judges 151 = .ok (.istore_n 3, 1) := by decide +kernel
theorem dX12_judges_152 : decode cX12_judges 152 = .ok (.iload_n 3, 1) := by decide +kernel
theorem dX12_judges_153 : decode cX12_judges 153 = .ok (.aload_n 0, 1) := by decide +kernel
theorem dX12_judges_154 : decode cX12_judges 154 = .ok (.getfield 43, 3) := by decide +kernel
theorem dX12_judges_157 : decode cX12_judges 157 = .ok (.iload_n 1, 1) := by decide +kernel
theorem dX12_judges_158 : decode cX12_judges 158 = .ok (.iconst 2, 1) := by decide +kernel
theorem dX12_judges_159 : decode cX12_judges 159 = .ok (.iadd, 1) := by decide +kernel
theorem dX12_judges_160 : decode cX12_judges 160 = .ok (.iaload, 1) := by decide +kernel
theorem dX12_judges_161 : decode cX12_judges 161 = .ok (.if_icmp .ge 38, 3) := by decide +kernel
theorem dX12_judges_164 : decode cX12_judges 164 = .ok (.aload_n 0, 1) := by decide +kernel
theorem dX12_judges_165 : decode cX12_judges 165 = .ok (.iload_n 2, 1) := by decide +kernel
theorem dX12_judges_166 : decode cX12_judges 166 = .ok (.aload_n 0, 1) := by decide +kernel
theorem dX12_judges_167 : decode cX12_judges 167 = .ok (.getfield 43, 3) := by decide +kernel
theorem dX12_judges_170 : decode cX12_judges 170 = .ok (.iload_n 1, 1) := by decide +kernel
theorem dX12_judges_171 : decode cX12_judges 171 = .ok (.iconst 3, 1) := by decide +kernel
theorem dX12_judges_172 : decode cX12_judges 172 = .ok (.iadd, 1) := by decide +kernel
theorem dX12_judges_173 : decode cX12_judges 173 = .ok (.iconst 2, 1) := by decide +kernel
theorem dX12_judges_174 : decode cX12_judges 174 = .ok (.iload_n 3, 1) := by decide +kernel
theorem dX12_judges_175 : decode cX12_judges 175 = .ok (.imul, 1) := by decide +kernel
theorem dX12_judges_176 : decode cX12_judges 176 = .ok (.iadd, 1) := by decide +kernel
theorem dX12_judges_177 : decode cX12_judges 177 = .ok (.iaload, 1) := by decide +kernel
theorem dX12_judges_178 : decode cX12_judges 178 = .ok (.aload_n 0, 1) := by decide +kernel
theorem dX12_judges_179 : decode cX12_judges 179 = .ok (.getfield 43, 3) := by decide +kernel
theorem dX12_judges_182 : decode cX12_judges 182 = .ok (.iload_n 1, 1) := by decide +kernel
theorem dX12_judges_183 : decode cX12_judges 183 = .ok (.iconst 4, 1) := by decide +kernel
theorem dX12_judges_184 : decode cX12_judges 184 = .ok (.iadd, 1) := by decide +kernel
theorem dX12_judges_185 : decode cX12_judges 185 = .ok (.iconst 2, 1) := by decide +kernel
theorem dX12_judges_186 : decode cX12_judges 186 = .ok (.iload_n 3, 1) := by decide +kernel
theorem dX12_judges_187 : decode cX12_judges 187 = .ok (.imul, 1) := by decide +kernel
theorem dX12_judges_188 : decode cX12_judges 188 = .ok (.iadd, 1) := by decide +kernel
theorem dX12_judges_189 : decode cX12_judges 189 = .ok (.iaload, 1) := by decide +kernel
theorem dX12_judges_190 : decode cX12_judges 190 = .ok (.invokevirtual 386, 3) := by decide +kernel
theorem dX12_judges_193 : decode cX12_judges 193 = .ok (.iinc 3 1, 3) := by decide +kernel
theorem dX12_judges_196 : decode cX12_judges 196 = .ok (.goto (-44), 3) := by decide +kernel
theorem dX12_judges_199 : decode cX12_judges 199 = .ok (.iinc 2 1, 3) := by decide +kernel
theorem dX12_judges_202 : decode cX12_judges 202 = .ok (.goto (-106), 3) := by decide +kernel
theorem dX12_judges_205 : decode cX12_judges 205 = .ok (.aload_n 0, 1) := by decide +kernel
theorem dX12_judges_206 : decode cX12_judges 206 = .ok (.invokevirtual 420, 3) := by decide +kernel
theorem dX12_judges_209 : decode cX12_judges 209 = .ok (.iconst 0, 1) := by decide +kernel
theorem dX12_judges_210 : decode cX12_judges 210 = .ok (.istore_n 2, 1) := by decide +kernel
theorem dX12_judges_211 : decode cX12_judges 211 = .ok (.iload_n 2, 1) := by decide +kernel
theorem dX12_judges_212 : decode cX12_judges 212 = .ok (.bipush 99, 2) := by decide +kernel
theorem dX12_judges_214 : decode cX12_judges 214 = .ok (.if_icmp .ge 32, 3) := by decide +kernel
theorem dX12_judges_217 : decode cX12_judges 217 = .ok (.aload_n 0, 1) := by decide +kernel
theorem dX12_judges_218 : decode cX12_judges 218 = .ok (.dup, 1) := by decide +kernel
theorem dX12_judges_219 : decode cX12_judges 219 = .ok (.getfield 408, 3) := by decide +kernel
theorem dX12_judges_222 : decode cX12_judges 222 = .ok (.aload_n 0, 1) := by decide +kernel
theorem dX12_judges_223 : decode cX12_judges 223 = .ok (.getfield 68, 3) := by decide +kernel
theorem dX12_judges_226 : decode cX12_judges 226 = .ok (.iload_n 2, 1) := by decide +kernel
theorem dX12_judges_227 : decode cX12_judges 227 = .ok (.iaload, 1) := by decide +kernel
theorem dX12_judges_228 : decode cX12_judges 228 = .ok (.ifCond .lt 7, 3) := by decide +kernel
theorem dX12_judges_231 : decode cX12_judges 231 = .ok (.iconst 1, 1) := by decide +kernel
theorem dX12_judges_232 : decode cX12_judges 232 = .ok (.goto 4, 3) := by decide +kernel
theorem dX12_judges_235 : decode cX12_judges 235 = .ok (.iconst 0, 1) := by decide +kernel
theorem dX12_judges_236 : decode cX12_judges 236 = .ok (.iadd, 1) := by decide +kernel
theorem dX12_judges_237 : decode cX12_judges 237 = .ok (.putfield 408, 3) := by decide +kernel
theorem dX12_judges_240 : decode cX12_judges 240 = .ok (.iinc 2 1, 3) := by decide +kernel
theorem dX12_judges_243 : decode cX12_judges 243 = .ok (.goto (-32), 3) := by decide +kernel
theorem dX12_judges_246 : decode cX12_judges 246 = .ok (.aload_n 0, 1) := by decide +kernel
theorem dX12_judges_247 : decode cX12_judges 247 = .ok (.iconst 1, 1) := by decide +kernel
theorem dX12_judges_248 : decode cX12_judges 248 = .ok (.putfield 376, 3) := by decide +kernel
theorem dX12_judges_251 : decode cX12_judges 251 = .ok (.aload_n 0, 1) := by decide +kernel
theorem dX12_judges_252 : decode cX12_judges 252 = .ok (.getfield 376, 3) := by decide +kernel
theorem dX12_judges_255 : decode cX12_judges 255 = .ok (.ifCond .eq 60, 3) := by decide +kernel
theorem dX12_judges_258 : decode cX12_judges 258 = .ok (.aload_n 0, 1) := by decide +kernel
theorem dX12_judges_259 : decode cX12_judges 259 = .ok (.getfield 380, 3) := by decide +kernel
theorem dX12_judges_262 : decode cX12_judges 262 = .ok (.ifCond .ne 53, 3) := by decide +kernel
theorem dX12_judges_265 : decode cX12_judges 265 = .ok (.aload_n 0, 1) := by decide +kernel
theorem dX12_judges_266 : decode cX12_judges 266 = .ok (.iconst 0, 1) := by decide +kernel
theorem dX12_judges_267 : decode cX12_judges 267 = .ok (.putfield 376, 3) := by decide +kernel
theorem dX12_judges_270 : decode cX12_judges 270 = .ok (.iconst 0, 1) := by decide +kernel
theorem dX12_judges_271 : decode cX12_judges 271 = .ok (.istore_n 2, 1) := by decide +kernel
theorem dX12_judges_272 : decode cX12_judges 272 = .ok (.iload_n 2, 1) := by decide +kernel
theorem dX12_judges_273 : decode cX12_judges 273 = .ok (.bipush 99, 2) := by decide +kernel
theorem dX12_judges_275 : decode cX12_judges 275 = .ok (.if_icmp .ge 37, 3) := by decide +kernel
theorem dX12_judges_278 : decode cX12_judges 278 = .ok (.aload_n 0, 1) := by decide +kernel
theorem dX12_judges_279 : decode cX12_judges 279 = .ok (.getfield 33, 3) := by decide +kernel
theorem dX12_judges_282 : decode cX12_judges 282 = .ok (.sipush 150, 3) := by decide +kernel
theorem dX12_judges_285 : decode cX12_judges 285 = .ok (.iload_n 2, 1) := by decide +kernel
theorem dX12_judges_286 : decode cX12_judges 286 = .ok (.iadd, 1) := by decide +kernel
theorem dX12_judges_287 : decode cX12_judges 287 = .ok (.iaload, 1) := by decide +kernel
theorem dX12_judges_288 : decode cX12_judges 288 = .ok (.iconst 1, 1) := by decide +kernel
theorem dX12_judges_289 : decode cX12_judges 289 = .ok (.if_icmp .ne 17, 3) := by decide +kernel
theorem dX12_judges_292 : decode cX12_judges 292 = .ok (.aload_n 0, 1) := by decide +kernel
theorem dX12_judges_293 : decode cX12_judges 293 = .ok (.getfield 68, 3) := by decide +kernel
theorem dX12_judges_296 : decode cX12_judges 296 = .ok (.iload_n 2, 1) := by decide +kernel
theorem dX12_judges_297 : decode cX12_judges 297 = .ok (.iaload, 1) := by decide +kernel
theorem dX12_judges_298 : decode cX12_judges 298 = .ok (.ifCond .ge 8, 3) := by decide +kernel
theorem dX12_judges_301 : decode cX12_judges 301 = .ok (.aload_n 0, 1) := by decide +kernel
theorem dX12_judges_302 : decode cX12_judges 302 = .ok (.iload_n 2, 1) := by decide +kernel
theorem dX12_judges_303 : decode cX12_judges 303 = .ok (.invokevirtual 423, 3) := by decide +kernel
theorem dX12_judges_306 : decode cX12_judges 306 = .ok (.iinc 2 1, 3) := by decide +kernel
theorem dX12_judges_309 : decode cX12_judges 309 = .ok (.goto (-37), 3) := by decide +kernel
theorem dX12_judges_312 : decode cX12_judges 312 = .ok (.goto (-61), 3) := by decide +kernel
theorem dX12_judges_315 : decode cX12_judges 315 = .ok (.aload_n 0, 1) := by decide +kernel
theorem dX12_judges_316 : decode cX12_judges 316 = .ok (.getfield 380, 3) := by decide +kernel
theorem dX12_judges_319 : decode cX12_judges 319 = .ok (.ifCond .eq 5, 3) := by decide +kernel
theorem dX12_judges_322 : decode cX12_judges 322 = .ok (.iconst 5, 1) := by decide +kernel
theorem dX12_judges_323 : decode cX12_judges 323 = .ok (.ireturn, 1) := by decide +kernel
theorem dX12_judges_324 : decode cX12_judges 324 = .ok (.aload_n 0, 1) := by decide +kernel
theorem dX12_judges_325 : decode cX12_judges 325 = .ok (.aload_n 0, 1) := by decide +kernel
theorem dX12_judges_326 : decode cX12_judges 326 = .ok (.invokevirtual 426, 3) := by decide +kernel
theorem dX12_judges_329 : decode cX12_judges 329 = .ok (.putfield 411, 3) := by decide +kernel
theorem dX12_judges_332 : decode cX12_judges 332 = .ok (.aload_n 0, 1) := by decide +kernel
theorem dX12_judges_333 : decode cX12_judges 333 = .ok (.getfield 43, 3) := by decide +kernel
theorem dX12_judges_336 : decode cX12_judges 336 = .ok (.iload_n 1, 1) := by decide +kernel
theorem dX12_judges_337 : decode cX12_judges 337 = .ok (.iaload, 1) := by decide +kernel
theorem dX12_judges_338 : decode cX12_judges 338 = .ok (.ifCond .ne 8, 3) := by decide +kernel
theorem dX12_judges_341 : decode cX12_judges 341 = .ok (.aload_n 0, 1) := by decide +kernel
theorem dX12_judges_342 : decode cX12_judges 342 = .ok (.iload_n 1, 1) := by decide +kernel
theorem dX12_judges_343 : decode cX12_judges 343 = .ok (.invokevirtual 429, 3) := by decide +kernel
theorem dX12_judges_346 : decode cX12_judges 346 = .ok (.aload_n 0, 1) := by decide +kernel
theorem dX12_judges_347 : decode cX12_judges 347 = .ok (.aload_n 0, 1) := by decide +kernel
theorem dX12_judges_348 : decode cX12_judges 348 = .ok (.getfield 33, 3) := by decide +kernel
theorem dX12_judges_351 : decode cX12_judges 351 = .ok (.sipush 149, 3) := by decide +kernel
theorem dX12_judges_354 : decode cX12_judges 354 = .ok (.iaload, 1) := by decide +kernel
theorem dX12_judges_355 : decode cX12_judges 355 = .ok (.ifCond .ne 7, 3) := by decide +kernel
theorem dX12_judges_358 : decode cX12_judges 358 = .ok (.iconst 1, 1) := by decide +kernel
theorem dX12_judges_359 : decode cX12_judges 359 = .ok (.goto 4, 3) := by decide +kernel
theorem dX12_judges_362 : decode cX12_judges 362 = .ok (.iconst 0, 1) := by decide +kernel
theorem dX12_judges_363 : decode cX12_judges 363 = .ok (.invokevirtual 432, 3) := by decide +kernel
theorem dX12_judges_366 : decode cX12_judges 366 = .ok (.aload_n 0, 1) := by decide +kernel
theorem dX12_judges_367 : decode cX12_judges 367 = .ok (.getfield 327, 3) := by decide +kernel
theorem dX12_judges_370 : decode cX12_judges 370 = .ok (.ifCond .ne 5, 3) := by decide +kernel
theorem dX12_judges_373 : decode cX12_judges 373 = .ok (.iconst 0, 1) := by decide +kernel
theorem dX12_judges_374 : decode cX12_judges 374 = .ok (.ireturn, 1) := by decide +kernel
theorem dX12_judges_375 : decode cX12_judges 375 = .ok (.iconst 0, 1) := by decide +kernel
theorem dX12_judges_376 : decode cX12_judges 376 = .ok (.istore_n 2, 1) := by decide +kernel
theorem dX12_judges_377 : decode cX12_judges 377 = .ok (.iload_n 2, 1) := by decide +kernel
theorem dX12_judges_378 : decode cX12_judges 378 = .ok (.sipush 1091, 3) := by decide +kernel
theorem dX12_judges_381 : decode cX12_judges 381 = .ok (.if_icmp .ge 25, 3) := by decide +kernel
theorem dX12_judges_384 : decode cX12_judges 384 = .ok (.aload_n 0, 1) := by decide +kernel
theorem dX12_judges_385 : decode cX12_judges 385 = .ok (.getfield 33, 3) := by decide +kernel
theorem dX12_judges_388 : decode cX12_judges 388 = .ok (.sipush 148, 3) := by decide +kernel
theorem dX12_judges_391 : decode cX12_judges 391 = .ok (.iload_n 2, 1) := by decide +kernel
theorem dX12_judges_392 : decode cX12_judges 392 = .ok (.iadd, 1) := by decide +kernel
theorem dX12_judges_393 : decode cX12_judges 393 = .ok (.aload_n 0, 1) := by decide +kernel
theorem dX12_judges_394 : decode cX12_judges 394 = .ok (.getfield 71, 3) := by decide +kernel
theorem dX12_judges_397 : decode cX12_judges 397 = .ok (.iload_n 2, 1) := by decide +kernel
theorem dX12_judges_398 : decode cX12_judges 398 = .ok (.iaload, 1) := by decide +kernel
theorem dX12_judges_399 : decode cX12_judges 399 = .ok (.iastore, 1) := by decide +kernel
theorem dX12_judges_400 : decode cX12_judges 400 = .ok (.iinc 2 1, 3) := by decide +kernel
theorem dX12_judges_403 : decode cX12_judges 403 = .ok (.goto (-26), 3) := by decide +kernel
theorem dX12_judges_406 : decode cX12_judges 406 = .ok (.aload_n 0, 1) := by decide +kernel
theorem dX12_judges_407 : decode cX12_judges 407 = .ok (.getfield 53, 3) := by decide +kernel
theorem dX12_judges_410 : decode cX12_judges 410 = .ok (.iconst 0, 1) := by decide +kernel
theorem dX12_judges_411 : decode cX12_judges 411 = .ok (.iaload, 1) := by decide +kernel
theorem dX12_judges_412 : decode cX12_judges 412 = .ok (.ireturn, 1) := by decide +kernel
abbrev M_X12_judges : mM := (cX12_judges, 4, RX12, some .int, false, 5, 119, 0, 0)
theorem gX12_judges : cI yX12_judges M_X12_judges 1 := ⟨(wsl_42 _ (List.mem_of_getElem? (i := 0) rfl)), (wsl_42 _ (List.mem_of_getElem? (i := 1) rfl)), (wsl_1 _ (List.mem_of_getElem? (i := 5) rfl)), (wsl_42 _ (List.mem_of_getElem? (i := 2) rfl)), by decide +kernel⟩
noncomputable def fX12_judges_s152 (h0 : hH) (a0 a1 l2 : Int) : hH × Int → Option ((hH × Int) ⊕ ((hH × Int) ⊕ (Int × hH))) := fun (h, l3) =>
  (aget h (h a0 9) (w32 (a1 + 2))).bind fun v160 =>
  if l3 < v160 then
    (aget h (h a0 9) (w32 ((w32 (a1 + 3)) + (w32 (2 * l3))))).bind fun v177 =>
    (aget h (h a0 9) (w32 ((w32 (a1 + 4)) + (w32 (2 * l3))))).bind fun v189 =>
    (fX12_wants h a0 l2 v177 v189).bind fun h190 =>
    some (.inl (h190, w32 (l3 + 1)))
  else
    some (.inr (.inl (h, w32 (l2 + 1))))
noncomputable def fX12_judges_b150 (h : hH) (a0 a1 l2 : Int) : Option ((hH × Int) ⊕ (Int × hH)) :=
  lpO (fX12_judges_s152 h a0 a1 l2) (h, 0)
noncomputable def fX12_judges_b236 (h : hH) (a0 a1 l2 s0 s1 s2 : Int) : Option ((hH × Int) ⊕ (Int × hH)) :=
  (pput h s2 32 (w32 (s1 + s0))).bind fun h237 =>
  some (.inl (h237, w32 (l2 + 1)))
noncomputable def fX12_judges_s272 (h0 : hH) (a0 a1 : Int) : hH × Int → Option ((hH × Int) ⊕ ((hH) ⊕ (Int × hH))) := fun (h, l2) =>
  if l2 < 99 then
    (aget h (h a0 6) (w32 (150 + l2))).bind fun v287 =>
    if v287 = 1 then
      (aget h (h a0 29) l2).bind fun v297 =>
      if v297 < 0 then
        (fX12_follows h a0 l2).bind fun h303 =>
        some (.inl (h303, w32 (l2 + 1)))
      else
        some (.inl (h, w32 (l2 + 1)))
    else
      some (.inl (h, w32 (l2 + 1)))
  else
    some (.inr (.inl h))
noncomputable def fX12_judges_s377 (h0 : hH) (a0 : Int) : hH × Int → Option ((hH × Int) ⊕ (Int × hH)) := fun (h, l2) =>
  if l2 < 1091 then
    (aget h (h a0 30) l2).bind fun v398 =>
    (aput h (h a0 6) (w32 (148 + l2)) v398).bind fun h399 =>
    some (.inl (h399, w32 (l2 + 1)))
  else
    (aget h (h a0 23) 0).bind fun v411 =>
    some (.inr ((v411, h)))
noncomputable def fX12_judges_b363 (h : hH) (a0 s0 s1 : Int) : Option (Int × hH) :=
  (fX12_judgesAll h s1 s0).bind fun h363 =>
  if h363 a0 26 = 0 then
    some (0, h363)
  else
    lpO (fX12_judges_s377 h363 a0) (h363, 0)
noncomputable def fX12_judges_b346 (h : hH) (a0 : Int) : Option (Int × hH) :=
  (aget h (h a0 6) 149).bind fun v354 =>
  if v354 = 0 then
    fX12_judges_b363 h a0 1 a0
  else
    fX12_judges_b363 h a0 0 a0
noncomputable def fX12_judges_b315 (h : hH) (a0 a1 : Int) : Option (Int × hH) :=
  if h a0 34 = 0 then
    (fX12_doesAll h a0).bind fun q326 =>
    (pput q326.2 a0 33 q326.1).bind fun h329 =>
    (aget h329 (h329 a0 9) a1).bind fun v337 =>
    if v337 = 0 then
      (fX12_inserts h329 a0 a1).bind fun h343 =>
      fX12_judges_b346 h343 a0
    else
      fX12_judges_b346 h329 a0
  else
    some (5, h)
noncomputable def fX12_judges_s251 (h0 : hH) (a0 a1 : Int) : hH → Option ((hH) ⊕ (Int × hH)) := fun h =>
  if h a0 35 = 0 then
    (fX12_judges_b315 h a0 a1).map (fun z9 => .inr (z9))
  else
    if h a0 34 = 0 then
      (pput h a0 35 0).bind fun h267 =>
      lpO (fX12_judges_s272 h267 a0 a1) (h267, 0)
    else
      (fX12_judges_b315 h a0 a1).map (fun z9 => .inr (z9))
noncomputable def fX12_judges_s211 (h0 : hH) (a0 a1 : Int) : hH × Int → Option ((hH × Int) ⊕ (Int × hH)) := fun (h, l2) =>
  if l2 < 99 then
    (aget h (h a0 29) l2).bind fun v227 =>
    if v227 < 0 then
      fX12_judges_b236 h a0 a1 l2 0 (h a0 32) a0
    else
      fX12_judges_b236 h a0 a1 l2 1 (h a0 32) a0
  else
    (pput h a0 35 1).bind fun h248 =>
    (lpO (fX12_judges_s251 h248 a0 a1) h248).map (fun z9 => .inr (z9))
noncomputable def fX12_judges_b205 (h : hH) (a0 a1 : Int) : Option (Int × hH) :=
  (fX12_closes h a0).bind fun h206 =>
  lpO (fX12_judges_s211 h206 a0 a1) (h206, 0)
noncomputable def fX12_judges_s96 (h0 : hH) (a0 a1 : Int) : hH × Int → Option ((hH × Int) ⊕ (Int × hH)) := fun (h, l2) =>
  if l2 < 99 then
    (aget h (h a0 9) a1).bind fun v107 =>
    if 0 < v107 then
      (fX12_isFound h a0 l2 a1).bind fun r114 =>
      if r114 = 0 then
        some (.inl (h, w32 (l2 + 1)))
      else
        (pput h a0 31 (w32 ((h a0 31) + 1))).bind fun h130 =>
        (aget h130 (h130 a0 9) a1).bind fun v138 =>
        if v138 = 1 then
          (aput h130 (h130 a0 29) l2 0).bind fun h149 =>
          fX12_judges_b150 h149 a0 a1 l2
        else
          fX12_judges_b150 h130 a0 a1 l2
    else
      (fX12_judges_b205 h a0 a1).map (fun z9 => .inr (z9))
  else
    (fX12_judges_b205 h a0 a1).map (fun z9 => .inr (z9))
noncomputable def fX12_judges_b94 (h : hH) (a0 a1 : Int) : Option (Int × hH) :=
  lpO (fX12_judges_s96 h a0 a1) (h, 0)
noncomputable def fX12_judges_s2 (h0 : hH) (a0 a1 : Int) : hH × Int → Option ((hH × Int) ⊕ (Int × hH)) := fun (h, l2) =>
  if l2 < 1091 then
    (aget h (h a0 6) (w32 (148 + l2))).bind fun v23 =>
    (aput h (h a0 30) l2 v23).bind fun h24 =>
    some (.inl (h24, w32 (l2 + 1)))
  else
    (fX12_laysAhead h a0).bind fun h32 =>
    (pput h32 a0 31 0).bind fun h37 =>
    (pput h37 a0 32 0).bind fun h42 =>
    (pput h42 a0 33 0).bind fun h47 =>
    (pput h47 a0 34 0).bind fun h52 =>
    (pput h52 a0 26 0).bind fun h57 =>
    (aget h57 (h57 a0 9) a1).bind fun v65 =>
    if v65 = 0 then
      (fX12_rowsNow h57 a0).bind fun r70 =>
      if r70 = 40 then
        some (.inr ((6, h57)))
      else
        (aget h57 (h57 a0 6) 148).bind fun v85 =>
        if v85 = 99 then
          some (.inr ((6, h57)))
        else
          (fX12_judges_b94 h57 a0 a1).map (fun z9 => .inr (z9))
    else
      (fX12_judges_b94 h57 a0 a1).map (fun z9 => .inr (z9))
noncomputable def fX12_judges (h : hH) (a0 a1 : Int) : Option (Int × hH) :=
  lpO (fX12_judges_s2 h a0 a1) (h, 0)
section M_X12_judges
variable {p : Program} {l : Launch} {e : Env} {R : Room} {s : State} {m : MethodId} {args : Array Value} {below : List Frame} {meth : Method} {c : Code} {D : va_G} {G : gG} {A : Nat → Prop} {H0 : Heap} {n0 : Int} {x : Option vV × hH} {h : hH}
set_option maxRecDepth 100000 in
set_option maxHeartbeats 4000000 in
theorem oX12_judges_s152 {h0 : hH} {a0 a1 l2 l3 : Int} {K : (hH × Int) ⊕ ((hH × Int) ⊕ (Int × hH)) → Prop} (k0 : ∀ r, K (.inr (.inr (r))) → x = (some (0, r.1), r.2)) (k1 : ∀ (h : hH) (l2 : Int), K (.inr (.inl (h, l2))) → Wq p l e R s m args below meth c D G A H0 true n0 M_X12_judges x 0 0 96 [(0, (22, a0)), (1, (0, a1)), (2, (0, l2))] [] h) (k2 : ∀ (h : hH) (l3 : Int), K (.inl (h, l3)) → Wq p l e R s m args below meth c D G A H0 true n0 M_X12_judges x 0 0 152 [(0, (22, a0)), (1, (0, a1)), (2, (0, l2)), (3, (0, l3))] [] h) {r : (hH × Int) ⊕ ((hH × Int) ⊕ (Int × hH))} (hr : fX12_judges_s152 h0 a0 a1 l2 (h, l3) = some r) (hk : K r) : Wq p l e R s m args below meth c D G A H0 true n0 M_X12_judges x 0 0 152 [(0, (22, a0)), (1, (0, a1)), (2, (0, l2)), (3, (0, l3))] [] h := by
  unfold fX12_judges_s152 at hr
  refine r_iload_n dX12_judges_152 rfl 3 rfl (Or.inl rfl) ?_
  refine r_aload_n dX12_judges_153 rfl 0 rfl (nl rfl) ?_
  refine r_get 12 9 (o := a0) (w := (50, h a0 9)) (T := TX12) (ref := "FollowingRefsModel") rfl (by decide) rfl (by decide) inlX12 (wsl_7 _ (List.mem_of_getElem? (i := 11) rfl)) rfl dX12_judges_154 rfl ?_
  refine r_iload_n dX12_judges_157 rfl 1 rfl (Or.inl rfl) ?_
  refine r_iconst dX12_judges_158 (by decide) ?_
  refine r_iadd dX12_judges_159 ?_
  obtain ⟨v160, hg160, hr⟩ := bnd hr
  refine r_iald dX12_judges_160 hg160 ?_
  refine r_icmp_ge dX12_judges_161 (tgt := 199) (by decide) (fun hc => ?_) (fun hc => ?_)
  · have hr := ifn hr hc
    refine r_iinc (k := 2) (v := l2) dX12_judges_199 rfl (by decide) (lv' := [(2, (0, w32 (l2 + 1))), (0, (22, a0)), (1, (0, a1)), (3, (0, l3))]) rfl ?_
    refine r_goto dX12_judges_202 (tgt := 96) (by decide) ?_
    refine r_sub [1, 2, 0] (lv' := [(0, (22, a0)), (1, (0, a1)), (2, (0, w32 (l2 + 1)))]) rfl ?_
    obtain rfl := Option.some.inj hr
    exact k1 _ _ hk
  · have hr := ifp hr hc
    refine r_aload_n dX12_judges_164 rfl 0 rfl (nl rfl) ?_
    refine r_iload_n dX12_judges_165 rfl 2 rfl (Or.inl rfl) ?_
    refine r_aload_n dX12_judges_166 rfl 0 rfl (nl rfl) ?_
    refine r_get 12 9 (o := a0) (w := (50, h a0 9)) (T := TX12) (ref := "FollowingRefsModel") rfl (by decide) rfl (by decide) inlX12 (wsl_7 _ (List.mem_of_getElem? (i := 11) rfl)) rfl dX12_judges_167 rfl ?_
    refine r_iload_n dX12_judges_170 rfl 1 rfl (Or.inl rfl) ?_
    refine r_iconst dX12_judges_171 (by decide) ?_
    refine r_iadd dX12_judges_172 ?_
    refine r_iconst dX12_judges_173 (by decide) ?_
    refine r_iload_n dX12_judges_174 rfl 3 rfl (Or.inl rfl) ?_
    refine r_imul dX12_judges_175 ?_
    refine r_iadd dX12_judges_176 ?_
    obtain ⟨v177, hg177, hr⟩ := bnd hr
    refine r_iald dX12_judges_177 hg177 ?_
    refine r_aload_n dX12_judges_178 rfl 0 rfl (nl rfl) ?_
    refine r_get 12 9 (o := a0) (w := (50, h a0 9)) (T := TX12) (ref := "FollowingRefsModel") rfl (by decide) rfl (by decide) inlX12 (wsl_7 _ (List.mem_of_getElem? (i := 11) rfl)) rfl dX12_judges_179 rfl ?_
    refine r_iload_n dX12_judges_182 rfl 1 rfl (Or.inl rfl) ?_
    refine r_iconst dX12_judges_183 (by decide) ?_
    refine r_iadd dX12_judges_184 ?_
    refine r_iconst dX12_judges_185 (by decide) ?_
    refine r_iload_n dX12_judges_186 rfl 3 rfl (Or.inl rfl) ?_
    refine r_imul dX12_judges_187 ?_
    refine r_iadd dX12_judges_188 ?_
    obtain ⟨v189, hg189, hr⟩ := bnd hr
    refine r_iald dX12_judges_189 hg189 ?_
    obtain ⟨h190, hg190, hr⟩ := bnd hr
    refine k_V (ci := 12) (o := a0) (T := TX12) (as := [(0, l2), (0, v177), (0, v189)]) (rest := []) (X := (none, h190)) (oX12_wants hg190) gX12_wants rfl (by decide) rfl (wsl_43 _ (List.mem_of_getElem? (i := 16) rfl)) rfl dX12_judges_190 rfl ?_
    refine r_iinc (k := 3) (v := l3) dX12_judges_193 rfl (by decide) (lv' := [(3, (0, w32 (l3 + 1))), (0, (22, a0)), (1, (0, a1)), (2, (0, l2))]) rfl ?_
    refine r_goto dX12_judges_196 (tgt := 152) (by decide) ?_
    refine r_sub [1, 2, 3, 0] (lv' := [(0, (22, a0)), (1, (0, a1)), (2, (0, l2)), (3, (0, w32 (l3 + 1)))]) rfl ?_
    obtain rfl := Option.some.inj hr
    exact k2 _ _ hk
set_option maxRecDepth 100000 in
set_option maxHeartbeats 4000000 in
theorem oX12_judges_b150 {a0 a1 l2 : Int} {K : (hH × Int) ⊕ (Int × hH) → Prop} (k0 : ∀ r, K (.inr (r)) → x = (some (0, r.1), r.2)) (k1 : ∀ (h : hH) (l2 : Int), K (.inl (h, l2)) → Wq p l e R s m args below meth c D G A H0 true n0 M_X12_judges x 0 0 96 [(0, (22, a0)), (1, (0, a1)), (2, (0, l2))] [] h) {r : (hH × Int) ⊕ (Int × hH)} (hr : fX12_judges_b150 h a0 a1 l2 = some r) (hk : K r) : Wq p l e R s m args below meth c D G A H0 true n0 M_X12_judges x 0 0 150 [(0, (22, a0)), (1, (0, a1)), (2, (0, l2))] [] h := by
  unfold fX12_judges_b150 at hr
  refine r_iconst dX12_judges_150 (by decide) ?_
  refine r_istore_n dX12_judges_151 rfl (Or.inl rfl) (by decide) (lv' := [(3, (0, 0)), (0, (22, a0)), (1, (0, a1)), (2, (0, l2))]) rfl ?_
  refine r_sub [1, 2, 3, 0] (lv' := [(0, (22, a0)), (1, (0, a1)), (2, (0, l2)), (3, (0, 0))]) rfl ?_
  exact lp_ok (w := fun (q : hH × Int) => Wq p l e R s m args below meth c D G A H0 true n0 M_X12_judges x 0 0 152 [(0, (22, a0)), (1, (0, a1)), (2, (0, l2)), (3, (0, q.2))] [] (q.1)) (K := K) (fun ⟨q0, q1⟩ r h1 h2 => oX12_judges_s152 (K := Sum.elim (fun (q : hH × Int) => Wq p l e R s m args below meth c D G A H0 true n0 M_X12_judges x 0 0 152 [(0, (22, a0)), (1, (0, a1)), (2, (0, l2)), (3, (0, q.2))] [] (q.1)) (K)) (fun r z => k0 r z) (fun _ _ z => k1 _ _ z) (fun _ _ z => z) h1 h2) hr hk
set_option maxRecDepth 100000 in
set_option maxHeartbeats 4000000 in
theorem oX12_judges_b236 {a0 a1 l2 s0 s1 s2 : Int} {K : (hH × Int) ⊕ (Int × hH) → Prop} (k0 : ∀ r, K (.inr (r)) → x = (some (0, r.1), r.2)) (k1 : ∀ (h : hH) (l2 : Int), K (.inl (h, l2)) → Wq p l e R s m args below meth c D G A H0 true n0 M_X12_judges x 0 0 211 [(0, (22, a0)), (1, (0, a1)), (2, (0, l2))] [] h) {r : (hH × Int) ⊕ (Int × hH)} (hr : fX12_judges_b236 h a0 a1 l2 s0 s1 s2 = some r) (hk : K r) : Wq p l e R s m args below meth c D G A H0 true n0 M_X12_judges x 0 0 236 [(0, (22, a0)), (1, (0, a1)), (2, (0, l2))] [(2, s0), (0, s1), (22, s2)] h := by
  unfold fX12_judges_b236 at hr
  refine r_scast 0 (v := (2, s0)) (w := (0, s0)) rfl zc hTz (st' := [(0, s0), (0, s1), (22, s2)]) rfl ?_
  refine r_iadd dX12_judges_236 ?_
  obtain ⟨h237, hg237, hr⟩ := bnd hr
  refine r_put' 12 32 (t := 0) (ref := "FollowingRefsModel") hg237 rfl tyX12 tyX12_ok nmX12 rfl (by decide) rfl (by decide) inlX12 (wsl_42 _ (List.mem_of_getElem? (i := 4) rfl)) rfl rfl (by decide +kernel) (by decide) rfl (Or.inl ⟨rfl, rfl⟩) dX12_judges_237 ?_
  refine r_iinc (k := 2) (v := l2) dX12_judges_240 rfl (by decide) (lv' := [(2, (0, w32 (l2 + 1))), (0, (22, a0)), (1, (0, a1))]) rfl ?_
  refine r_goto dX12_judges_243 (tgt := 211) (by decide) ?_
  refine r_sub [1, 2, 0] (lv' := [(0, (22, a0)), (1, (0, a1)), (2, (0, w32 (l2 + 1)))]) rfl ?_
  obtain rfl := Option.some.inj hr
  exact k1 _ _ hk
set_option maxRecDepth 100000 in
set_option maxHeartbeats 4000000 in
theorem oX12_judges_s272 {h0 : hH} {a0 a1 l2 : Int} {K : (hH × Int) ⊕ ((hH) ⊕ (Int × hH)) → Prop} (k0 : ∀ r, K (.inr (.inr (r))) → x = (some (0, r.1), r.2)) (k1 : ∀ (h : hH), K (.inr (.inl h)) → Wq p l e R s m args below meth c D G A H0 true n0 M_X12_judges x 0 0 251 [(0, (22, a0)), (1, (0, a1))] [] h) (k2 : ∀ (h : hH) (l2 : Int), K (.inl (h, l2)) → Wq p l e R s m args below meth c D G A H0 true n0 M_X12_judges x 0 0 272 [(0, (22, a0)), (1, (0, a1)), (2, (0, l2))] [] h) {r : (hH × Int) ⊕ ((hH) ⊕ (Int × hH))} (hr : fX12_judges_s272 h0 a0 a1 (h, l2) = some r) (hk : K r) : Wq p l e R s m args below meth c D G A H0 true n0 M_X12_judges x 0 0 272 [(0, (22, a0)), (1, (0, a1)), (2, (0, l2))] [] h := by
  unfold fX12_judges_s272 at hr
  refine r_iload_n dX12_judges_272 rfl 2 rfl (Or.inl rfl) ?_
  refine r_bipush dX12_judges_273 (by decide) (by decide) ?_
  refine r_icmp_ge dX12_judges_275 (tgt := 312) (by decide) (fun hc => ?_) (fun hc => ?_)
  · have hr := ifn hr hc
    refine r_goto dX12_judges_312 (tgt := 251) (by decide) ?_
    refine r_sub [0, 1] (lv' := [(0, (22, a0)), (1, (0, a1))]) rfl ?_
    obtain rfl := Option.some.inj hr
    exact k1 _ hk
  · have hr := ifp hr hc
    refine r_aload_n dX12_judges_278 rfl 0 rfl (nl rfl) ?_
    refine r_get 12 6 (o := a0) (w := (50, h a0 6)) (T := TX12) (ref := "FollowingRefsModel") rfl (by decide) rfl (by decide) inlX12 (wsl_7 _ (List.mem_of_getElem? (i := 8) rfl)) rfl dX12_judges_279 rfl ?_
    refine r_sipush dX12_judges_282 (by decide) (by decide) ?_
    refine r_iload_n dX12_judges_285 rfl 2 rfl (Or.inl rfl) ?_
    refine r_iadd dX12_judges_286 ?_
    obtain ⟨v287, hg287, hr⟩ := bnd hr
    refine r_iald dX12_judges_287 hg287 ?_
    refine r_iconst dX12_judges_288 (by decide) ?_
    refine r_icmp_ne dX12_judges_289 (tgt := 306) (by decide) (fun hc => ?_) (fun hc => ?_)
    · have hr := ifn hr hc
      refine r_iinc (k := 2) (v := l2) dX12_judges_306 rfl (by decide) (lv' := [(2, (0, w32 (l2 + 1))), (0, (22, a0)), (1, (0, a1))]) rfl ?_
      refine r_goto dX12_judges_309 (tgt := 272) (by decide) ?_
      refine r_sub [1, 2, 0] (lv' := [(0, (22, a0)), (1, (0, a1)), (2, (0, w32 (l2 + 1)))]) rfl ?_
      obtain rfl := Option.some.inj hr
      exact k2 _ _ hk
    · have hr := ifp hr hc
      refine r_aload_n dX12_judges_292 rfl 0 rfl (nl rfl) ?_
      refine r_get 12 29 (o := a0) (w := (50, h a0 29)) (T := TX12) (ref := "FollowingRefsModel") rfl (by decide) rfl (by decide) inlX12 (wsl_7 _ (List.mem_of_getElem? (i := 19) rfl)) rfl dX12_judges_293 rfl ?_
      refine r_iload_n dX12_judges_296 rfl 2 rfl (Or.inl rfl) ?_
      obtain ⟨v297, hg297, hr⟩ := bnd hr
      refine r_iald dX12_judges_297 hg297 ?_
      refine r_if_ge dX12_judges_298 (tgt := 306) (by decide) (fun hc => ?_) (fun hc => ?_)
      · have hr := ifn hr hc
        refine r_iinc (k := 2) (v := l2) dX12_judges_306 rfl (by decide) (lv' := [(2, (0, w32 (l2 + 1))), (0, (22, a0)), (1, (0, a1))]) rfl ?_
        refine r_goto dX12_judges_309 (tgt := 272) (by decide) ?_
        refine r_sub [1, 2, 0] (lv' := [(0, (22, a0)), (1, (0, a1)), (2, (0, w32 (l2 + 1)))]) rfl ?_
        obtain rfl := Option.some.inj hr
        exact k2 _ _ hk
      · have hr := ifp hr hc
        refine r_aload_n dX12_judges_301 rfl 0 rfl (nl rfl) ?_
        refine r_iload_n dX12_judges_302 rfl 2 rfl (Or.inl rfl) ?_
        obtain ⟨h303, hg303, hr⟩ := bnd hr
        refine k_V (ci := 12) (o := a0) (T := TX12) (as := [(0, l2)]) (rest := []) (X := (none, h303)) (oX12_follows hg303) gX12_follows rfl (by decide) rfl (wsl_44 _ (List.mem_of_getElem? (i := 0) rfl)) rfl dX12_judges_303 rfl ?_
        refine r_iinc (k := 2) (v := l2) dX12_judges_306 rfl (by decide) (lv' := [(2, (0, w32 (l2 + 1))), (0, (22, a0)), (1, (0, a1))]) rfl ?_
        refine r_goto dX12_judges_309 (tgt := 272) (by decide) ?_
        refine r_sub [1, 2, 0] (lv' := [(0, (22, a0)), (1, (0, a1)), (2, (0, w32 (l2 + 1)))]) rfl ?_
        obtain rfl := Option.some.inj hr
        exact k2 _ _ hk
set_option maxRecDepth 100000 in
set_option maxHeartbeats 4000000 in
theorem oX12_judges_s377 {h0 : hH} {a0 l2 : Int} {K : (hH × Int) ⊕ (Int × hH) → Prop} (k0 : ∀ r, K (.inr (r)) → x = (some (0, r.1), r.2)) (k1 : ∀ (h : hH) (l2 : Int), K (.inl (h, l2)) → Wq p l e R s m args below meth c D G A H0 true n0 M_X12_judges x 0 0 377 [(0, (22, a0)), (2, (0, l2))] [] h) {r : (hH × Int) ⊕ (Int × hH)} (hr : fX12_judges_s377 h0 a0 (h, l2) = some r) (hk : K r) : Wq p l e R s m args below meth c D G A H0 true n0 M_X12_judges x 0 0 377 [(0, (22, a0)), (2, (0, l2))] [] h := by
  unfold fX12_judges_s377 at hr
  refine r_iload_n dX12_judges_377 rfl 1 rfl (Or.inl rfl) ?_
  refine r_sipush dX12_judges_378 (by decide) (by decide) ?_
  refine r_icmp_ge dX12_judges_381 (tgt := 406) (by decide) (fun hc => ?_) (fun hc => ?_)
  · have hr := ifn hr hc
    refine r_aload_n dX12_judges_406 rfl 0 rfl (nl rfl) ?_
    refine r_get 12 23 (o := a0) (w := (50, h a0 23)) (T := TX12) (ref := "FollowingRefsModel") rfl (by decide) rfl (by decide) inlX12 (wsl_7 _ (List.mem_of_getElem? (i := 14) rfl)) rfl dX12_judges_407 rfl ?_
    refine r_iconst dX12_judges_410 (by decide) ?_
    obtain ⟨v411, hg411, hr⟩ := bnd hr
    refine r_iald dX12_judges_411 hg411 ?_
    obtain rfl := Option.some.inj hr
    exact r_ret dX12_judges_412 rfl (Or.inl ⟨rfl, rfl⟩) (k0 _ hk) ⟨rfl, rfl⟩
  · have hr := ifp hr hc
    refine r_aload_n dX12_judges_384 rfl 0 rfl (nl rfl) ?_
    refine r_get 12 6 (o := a0) (w := (50, h a0 6)) (T := TX12) (ref := "FollowingRefsModel") rfl (by decide) rfl (by decide) inlX12 (wsl_7 _ (List.mem_of_getElem? (i := 8) rfl)) rfl dX12_judges_385 rfl ?_
    refine r_sipush dX12_judges_388 (by decide) (by decide) ?_
    refine r_iload_n dX12_judges_391 rfl 1 rfl (Or.inl rfl) ?_
    refine r_iadd dX12_judges_392 ?_
    refine r_aload_n dX12_judges_393 rfl 0 rfl (nl rfl) ?_
    refine r_get 12 30 (o := a0) (w := (50, h a0 30)) (T := TX12) (ref := "FollowingRefsModel") rfl (by decide) rfl (by decide) inlX12 (wsl_7 _ (List.mem_of_getElem? (i := 20) rfl)) rfl dX12_judges_394 rfl ?_
    refine r_iload_n dX12_judges_397 rfl 1 rfl (Or.inl rfl) ?_
    obtain ⟨v398, hg398, hr⟩ := bnd hr
    refine r_iald dX12_judges_398 hg398 ?_
    obtain ⟨h399, hg399, hr⟩ := bnd hr
    refine r_iast dX12_judges_399 hg399 ?_
    refine r_iinc (k := 1) (v := l2) dX12_judges_400 rfl (by decide) (lv' := [(2, (0, w32 (l2 + 1))), (0, (22, a0))]) rfl ?_
    refine r_goto dX12_judges_403 (tgt := 377) (by decide) ?_
    refine r_sub [1, 0] (lv' := [(0, (22, a0)), (2, (0, w32 (l2 + 1)))]) rfl ?_
    obtain rfl := Option.some.inj hr
    exact k1 _ _ hk
set_option maxRecDepth 100000 in
set_option maxHeartbeats 4000000 in
theorem oX12_judges_b363 {a0 s0 s1 : Int} {K : Int × hH → Prop} (k0 : ∀ r, K (r) → x = (some (0, r.1), r.2)) {r : Int × hH} (hr : fX12_judges_b363 h a0 s0 s1 = some r) (hk : K r) : Wq p l e R s m args below meth c D G A H0 true n0 M_X12_judges x 0 0 363 [(0, (22, a0))] [(2, s0), (22, s1)] h := by
  unfold fX12_judges_b363 at hr
  obtain ⟨h363, hg363, hr⟩ := bnd hr
  refine k_V (ci := 12) (o := s1) (T := TX12) (as := [(2, s0)]) (rest := []) (X := (none, h363)) (oX12_judgesAll hg363) gX12_judgesAll rfl (by decide) rfl (wsl_45 _ (List.mem_of_getElem? (i := 8) rfl)) rfl dX12_judges_363 rfl ?_
  refine r_aload_n dX12_judges_366 rfl 0 rfl (nl rfl) ?_
  refine r_get 12 26 (o := a0) (w := (0, h363 a0 26)) (T := TX12) (ref := "FollowingRefsModel") rfl (by decide) rfl (by decide) inlX12 (wsl_42 _ (List.mem_of_getElem? (i := 7) rfl)) rfl dX12_judges_367 rfl ?_
  refine r_if_ne dX12_judges_370 (tgt := 375) (by decide) (fun hc => ?_) (fun hc => ?_)
  · have hr := ifn hr hc
    refine r_iconst dX12_judges_375 (by decide) ?_
    refine r_istore_n dX12_judges_376 rfl (Or.inl rfl) (by decide) (lv' := [(2, (0, 0)), (0, (22, a0))]) rfl ?_
    refine r_sub [1, 0] (lv' := [(0, (22, a0)), (2, (0, 0))]) rfl ?_
    exact lp_ok (w := fun (q : hH × Int) => Wq p l e R s m args below meth c D G A H0 true n0 M_X12_judges x 0 0 377 [(0, (22, a0)), (2, (0, q.2))] [] (q.1)) (K := K) (fun ⟨q0, q1⟩ r h1 h2 => oX12_judges_s377 (K := Sum.elim (fun (q : hH × Int) => Wq p l e R s m args below meth c D G A H0 true n0 M_X12_judges x 0 0 377 [(0, (22, a0)), (2, (0, q.2))] [] (q.1)) (K)) (fun r z => k0 r z) (fun _ _ z => z) h1 h2) hr hk
  · have hr := ifp hr hc
    refine r_iconst dX12_judges_373 (by decide) ?_
    obtain rfl := Option.some.inj hr
    exact r_ret dX12_judges_374 rfl (Or.inl ⟨rfl, rfl⟩) (k0 _ hk) ⟨rfl, rfl⟩
set_option maxRecDepth 100000 in
set_option maxHeartbeats 4000000 in
theorem oX12_judges_b346 {a0 : Int} {K : Int × hH → Prop} (k0 : ∀ r, K (r) → x = (some (0, r.1), r.2)) {r : Int × hH} (hr : fX12_judges_b346 h a0 = some r) (hk : K r) : Wq p l e R s m args below meth c D G A H0 true n0 M_X12_judges x 0 0 346 [(0, (22, a0))] [] h := by
  unfold fX12_judges_b346 at hr
  refine r_aload_n dX12_judges_346 rfl 0 rfl (nl rfl) ?_
  refine r_aload_n dX12_judges_347 rfl 0 rfl (nl rfl) ?_
  refine r_get 12 6 (o := a0) (w := (50, h a0 6)) (T := TX12) (ref := "FollowingRefsModel") rfl (by decide) rfl (by decide) inlX12 (wsl_7 _ (List.mem_of_getElem? (i := 8) rfl)) rfl dX12_judges_348 rfl ?_
  refine r_sipush dX12_judges_351 (by decide) (by decide) ?_
  obtain ⟨v354, hg354, hr⟩ := bnd hr
  refine r_iald dX12_judges_354 hg354 ?_
  refine r_if_ne dX12_judges_355 (tgt := 362) (by decide) (fun hc => ?_) (fun hc => ?_)
  · have hr := ifn hr hc
    refine r_iconst dX12_judges_362 (by decide) ?_
    refine r_scast 0 (v := (0, 0)) (w := (2, 0)) rfl cz (fun _ => Or.inl rfl) (st' := [(2, 0), (22, a0)]) rfl ?_
    exact oX12_judges_b363 (K := K) (fun r z => k0 r z) hr hk
  · have hr := ifp hr hc
    refine r_iconst dX12_judges_358 (by decide) ?_
    refine r_goto dX12_judges_359 (tgt := 363) (by decide) ?_
    refine r_scast 0 (v := (0, 1)) (w := (2, 1)) rfl cz (fun _ => Or.inr rfl) (st' := [(2, 1), (22, a0)]) rfl ?_
    exact oX12_judges_b363 (K := K) (fun r z => k0 r z) hr hk
set_option maxRecDepth 100000 in
set_option maxHeartbeats 4000000 in
theorem oX12_judges_b315 {a0 a1 : Int} {K : Int × hH → Prop} (k0 : ∀ r, K (r) → x = (some (0, r.1), r.2)) {r : Int × hH} (hr : fX12_judges_b315 h a0 a1 = some r) (hk : K r) : Wq p l e R s m args below meth c D G A H0 true n0 M_X12_judges x 0 0 315 [(0, (22, a0)), (1, (0, a1))] [] h := by
  unfold fX12_judges_b315 at hr
  refine r_aload_n dX12_judges_315 rfl 0 rfl (nl rfl) ?_
  refine r_get 12 34 (o := a0) (w := (2, h a0 34)) (T := TX12) (ref := "FollowingRefsModel") rfl (by decide) rfl (by decide) inlX12 (wsl_42 _ (List.mem_of_getElem? (i := 6) rfl)) rfl dX12_judges_316 rfl ?_
  refine r_scast 0 (v := (2, h a0 34)) (w := (0, h a0 34)) rfl zc hTz (st' := [(0, h a0 34)]) rfl ?_
  refine r_if_eq dX12_judges_319 (tgt := 324) (by decide) (fun hc => ?_) (fun hc => ?_)
  · have hr := ifp hr hc
    refine r_aload_n dX12_judges_324 rfl 0 rfl (nl rfl) ?_
    refine r_aload_n dX12_judges_325 rfl 0 rfl (nl rfl) ?_
    obtain ⟨q326, hg326, hr⟩ := bnd hr
    refine k_V (ci := 12) (o := a0) (T := TX12) (as := []) (rest := [(22, a0)]) (X := (some (0, q326.1), q326.2)) (oX12_doesAll hg326) gX12_doesAll rfl (by decide) rfl (wsl_45 _ (List.mem_of_getElem? (i := 0) rfl)) rfl dX12_judges_326 rfl ?_
    obtain ⟨h329, hg329, hr⟩ := bnd hr
    refine r_put' 12 33 (t := 0) (ref := "FollowingRefsModel") hg329 rfl tyX12 tyX12_ok nmX12 rfl (by decide) rfl (by decide) inlX12 (wsl_42 _ (List.mem_of_getElem? (i := 5) rfl)) rfl rfl (by decide +kernel) (by decide) rfl (Or.inl ⟨rfl, rfl⟩) dX12_judges_329 ?_
    refine r_aload_n dX12_judges_332 rfl 0 rfl (nl rfl) ?_
    refine r_get 12 9 (o := a0) (w := (50, h329 a0 9)) (T := TX12) (ref := "FollowingRefsModel") rfl (by decide) rfl (by decide) inlX12 (wsl_7 _ (List.mem_of_getElem? (i := 11) rfl)) rfl dX12_judges_333 rfl ?_
    refine r_iload_n dX12_judges_336 rfl 1 rfl (Or.inl rfl) ?_
    obtain ⟨v337, hg337, hr⟩ := bnd hr
    refine r_iald dX12_judges_337 hg337 ?_
    refine r_if_ne dX12_judges_338 (tgt := 346) (by decide) (fun hc => ?_) (fun hc => ?_)
    · have hr := ifn hr hc
      refine r_sub [0] (lv' := [(0, (22, a0))]) rfl ?_
      exact oX12_judges_b346 (K := K) (fun r z => k0 r z) hr hk
    · have hr := ifp hr hc
      refine r_aload_n dX12_judges_341 rfl 0 rfl (nl rfl) ?_
      refine r_iload_n dX12_judges_342 rfl 1 rfl (Or.inl rfl) ?_
      obtain ⟨h343, hg343, hr⟩ := bnd hr
      refine k_V (ci := 12) (o := a0) (T := TX12) (as := [(0, a1)]) (rest := []) (X := (none, h343)) (oX12_inserts hg343) gX12_inserts rfl (by decide) rfl (wsl_45 _ (List.mem_of_getElem? (i := 4) rfl)) rfl dX12_judges_343 rfl ?_
      refine r_sub [0] (lv' := [(0, (22, a0))]) rfl ?_
      exact oX12_judges_b346 (K := K) (fun r z => k0 r z) hr hk
  · have hr := ifn hr hc
    refine r_iconst dX12_judges_322 (by decide) ?_
    obtain rfl := Option.some.inj hr
    exact r_ret dX12_judges_323 rfl (Or.inl ⟨rfl, rfl⟩) (k0 _ hk) ⟨rfl, rfl⟩
set_option maxRecDepth 100000 in
set_option maxHeartbeats 4000000 in
theorem oX12_judges_s251 {h0 : hH} {a0 a1 : Int} {K : (hH) ⊕ (Int × hH) → Prop} (k0 : ∀ r, K (.inr (r)) → x = (some (0, r.1), r.2)) (k1 : ∀ (h : hH), K (.inl h) → Wq p l e R s m args below meth c D G A H0 true n0 M_X12_judges x 0 0 251 [(0, (22, a0)), (1, (0, a1))] [] h) {r : (hH) ⊕ (Int × hH)} (hr : fX12_judges_s251 h0 a0 a1 h = some r) (hk : K r) : Wq p l e R s m args below meth c D G A H0 true n0 M_X12_judges x 0 0 251 [(0, (22, a0)), (1, (0, a1))] [] h := by
  unfold fX12_judges_s251 at hr
  refine r_aload_n dX12_judges_251 rfl 0 rfl (nl rfl) ?_
  refine r_get 12 35 (o := a0) (w := (2, h a0 35)) (T := TX12) (ref := "FollowingRefsModel") rfl (by decide) rfl (by decide) inlX12 (wsl_42 _ (List.mem_of_getElem? (i := 8) rfl)) rfl dX12_judges_252 rfl ?_
  refine r_scast 0 (v := (2, h a0 35)) (w := (0, h a0 35)) rfl zc hTz (st' := [(0, h a0 35)]) rfl ?_
  refine r_if_eq dX12_judges_255 (tgt := 315) (by decide) (fun hc => ?_) (fun hc => ?_)
  · have hr := ifp hr hc
    obtain ⟨r9, hr9, rfl⟩ := mpp hr
    exact oX12_judges_b315 (K := fun z9 => K (.inr (z9))) (fun r z => k0 r z) hr9 hk
  · have hr := ifn hr hc
    refine r_aload_n dX12_judges_258 rfl 0 rfl (nl rfl) ?_
    refine r_get 12 34 (o := a0) (w := (2, h a0 34)) (T := TX12) (ref := "FollowingRefsModel") rfl (by decide) rfl (by decide) inlX12 (wsl_42 _ (List.mem_of_getElem? (i := 6) rfl)) rfl dX12_judges_259 rfl ?_
    refine r_scast 0 (v := (2, h a0 34)) (w := (0, h a0 34)) rfl zc hTz (st' := [(0, h a0 34)]) rfl ?_
    refine r_if_ne dX12_judges_262 (tgt := 315) (by decide) (fun hc => ?_) (fun hc => ?_)
    · have hr := ifn hr hc
      obtain ⟨r9, hr9, rfl⟩ := mpp hr
      exact oX12_judges_b315 (K := fun z9 => K (.inr (z9))) (fun r z => k0 r z) hr9 hk
    · have hr := ifp hr hc
      refine r_aload_n dX12_judges_265 rfl 0 rfl (nl rfl) ?_
      refine r_iconst dX12_judges_266 (by decide) ?_
      refine r_scast 0 (v := (0, 0)) (w := (2, 0)) rfl cz (fun _ => Or.inl rfl) (st' := [(2, 0), (22, a0)]) rfl ?_
      obtain ⟨h267, hg267, hr⟩ := bnd hr
      refine r_put' 12 35 (t := 2) (ref := "FollowingRefsModel") hg267 rfl tyX12 tyX12_ok nmX12 rfl (by decide) rfl (by decide) inlX12 (wsl_42 _ (List.mem_of_getElem? (i := 8) rfl)) rfl rfl (by decide +kernel) (by decide) rfl (Or.inr (Or.inr (Or.inl ⟨rfl, rfl⟩))) dX12_judges_267 ?_
      refine r_iconst dX12_judges_270 (by decide) ?_
      refine r_istore_n dX12_judges_271 rfl (Or.inl rfl) (by decide) (lv' := [(2, (0, 0)), (0, (22, a0)), (1, (0, a1))]) rfl ?_
      refine r_sub [1, 2, 0] (lv' := [(0, (22, a0)), (1, (0, a1)), (2, (0, 0))]) rfl ?_
      exact lp_ok (w := fun (q : hH × Int) => Wq p l e R s m args below meth c D G A H0 true n0 M_X12_judges x 0 0 272 [(0, (22, a0)), (1, (0, a1)), (2, (0, q.2))] [] (q.1)) (K := K) (fun ⟨q0, q1⟩ r h1 h2 => oX12_judges_s272 (K := Sum.elim (fun (q : hH × Int) => Wq p l e R s m args below meth c D G A H0 true n0 M_X12_judges x 0 0 272 [(0, (22, a0)), (1, (0, a1)), (2, (0, q.2))] [] (q.1)) (K)) (fun r z => k0 r z) (fun _ z => k1 _ z) (fun _ _ z => z) h1 h2) hr hk
set_option maxRecDepth 100000 in
set_option maxHeartbeats 4000000 in
theorem oX12_judges_s211 {h0 : hH} {a0 a1 l2 : Int} {K : (hH × Int) ⊕ (Int × hH) → Prop} (k0 : ∀ r, K (.inr (r)) → x = (some (0, r.1), r.2)) (k1 : ∀ (h : hH) (l2 : Int), K (.inl (h, l2)) → Wq p l e R s m args below meth c D G A H0 true n0 M_X12_judges x 0 0 211 [(0, (22, a0)), (1, (0, a1)), (2, (0, l2))] [] h) {r : (hH × Int) ⊕ (Int × hH)} (hr : fX12_judges_s211 h0 a0 a1 (h, l2) = some r) (hk : K r) : Wq p l e R s m args below meth c D G A H0 true n0 M_X12_judges x 0 0 211 [(0, (22, a0)), (1, (0, a1)), (2, (0, l2))] [] h := by
  unfold fX12_judges_s211 at hr
  refine r_iload_n dX12_judges_211 rfl 2 rfl (Or.inl rfl) ?_
  refine r_bipush dX12_judges_212 (by decide) (by decide) ?_
  refine r_icmp_ge dX12_judges_214 (tgt := 246) (by decide) (fun hc => ?_) (fun hc => ?_)
  · have hr := ifn hr hc
    refine r_aload_n dX12_judges_246 rfl 0 rfl (nl rfl) ?_
    refine r_iconst dX12_judges_247 (by decide) ?_
    refine r_scast 0 (v := (0, 1)) (w := (2, 1)) rfl cz (fun _ => Or.inr rfl) (st' := [(2, 1), (22, a0)]) rfl ?_
    obtain ⟨h248, hg248, hr⟩ := bnd hr
    refine r_put' 12 35 (t := 2) (ref := "FollowingRefsModel") hg248 rfl tyX12 tyX12_ok nmX12 rfl (by decide) rfl (by decide) inlX12 (wsl_42 _ (List.mem_of_getElem? (i := 8) rfl)) rfl rfl (by decide +kernel) (by decide) rfl (Or.inr (Or.inr (Or.inl ⟨rfl, rfl⟩))) dX12_judges_248 ?_
    refine r_sub [0, 1] (lv' := [(0, (22, a0)), (1, (0, a1))]) rfl ?_
    obtain ⟨r9, hr9, rfl⟩ := mpp hr
    exact lp_ok (w := fun (q : hH) => Wq p l e R s m args below meth c D G A H0 true n0 M_X12_judges x 0 0 251 [(0, (22, a0)), (1, (0, a1))] [] (q)) (K := fun z9 => K (.inr (z9))) (fun q r h1 h2 => oX12_judges_s251 (K := Sum.elim (fun (q : hH) => Wq p l e R s m args below meth c D G A H0 true n0 M_X12_judges x 0 0 251 [(0, (22, a0)), (1, (0, a1))] [] (q)) (fun z9 => K (.inr (z9)))) (fun r z => k0 r z) (fun _ z => z) h1 h2) hr9 hk
  · have hr := ifp hr hc
    refine r_aload_n dX12_judges_217 rfl 0 rfl (nl rfl) ?_
    refine r_dup dX12_judges_218 (Nat.ne_of_beq_eq_false rfl) ?_
    refine r_get 12 32 (o := a0) (w := (0, h a0 32)) (T := TX12) (ref := "FollowingRefsModel") rfl (by decide) rfl (by decide) inlX12 (wsl_42 _ (List.mem_of_getElem? (i := 4) rfl)) rfl dX12_judges_219 rfl ?_
    refine r_aload_n dX12_judges_222 rfl 0 rfl (nl rfl) ?_
    refine r_get 12 29 (o := a0) (w := (50, h a0 29)) (T := TX12) (ref := "FollowingRefsModel") rfl (by decide) rfl (by decide) inlX12 (wsl_7 _ (List.mem_of_getElem? (i := 19) rfl)) rfl dX12_judges_223 rfl ?_
    refine r_iload_n dX12_judges_226 rfl 2 rfl (Or.inl rfl) ?_
    obtain ⟨v227, hg227, hr⟩ := bnd hr
    refine r_iald dX12_judges_227 hg227 ?_
    refine r_if_lt dX12_judges_228 (tgt := 235) (by decide) (fun hc => ?_) (fun hc => ?_)
    · have hr := ifp hr hc
      refine r_iconst dX12_judges_235 (by decide) ?_
      refine r_scast 0 (v := (0, 0)) (w := (2, 0)) rfl cz (fun _ => Or.inl rfl) (st' := [(2, 0), (0, h a0 32), (22, a0)]) rfl ?_
      exact oX12_judges_b236 (K := K) (fun r z => k0 r z) (fun _ _ z => k1 _ _ z) hr hk
    · have hr := ifn hr hc
      refine r_iconst dX12_judges_231 (by decide) ?_
      refine r_goto dX12_judges_232 (tgt := 236) (by decide) ?_
      refine r_scast 0 (v := (0, 1)) (w := (2, 1)) rfl cz (fun _ => Or.inr rfl) (st' := [(2, 1), (0, h a0 32), (22, a0)]) rfl ?_
      exact oX12_judges_b236 (K := K) (fun r z => k0 r z) (fun _ _ z => k1 _ _ z) hr hk
set_option maxRecDepth 100000 in
set_option maxHeartbeats 4000000 in
theorem oX12_judges_b205 {a0 a1 : Int} {K : Int × hH → Prop} (k0 : ∀ r, K (r) → x = (some (0, r.1), r.2)) {r : Int × hH} (hr : fX12_judges_b205 h a0 a1 = some r) (hk : K r) : Wq p l e R s m args below meth c D G A H0 true n0 M_X12_judges x 0 0 205 [(0, (22, a0)), (1, (0, a1))] [] h := by
  unfold fX12_judges_b205 at hr
  refine r_aload_n dX12_judges_205 rfl 0 rfl (nl rfl) ?_
  obtain ⟨h206, hg206, hr⟩ := bnd hr
  refine k_V (ci := 12) (o := a0) (T := TX12) (as := []) (rest := []) (X := (none, h206)) (oX12_closes hg206) gX12_closes rfl (by decide) rfl (wsl_43 _ (List.mem_of_getElem? (i := 20) rfl)) rfl dX12_judges_206 rfl ?_
  refine r_iconst dX12_judges_209 (by decide) ?_
  refine r_istore_n dX12_judges_210 rfl (Or.inl rfl) (by decide) (lv' := [(2, (0, 0)), (0, (22, a0)), (1, (0, a1))]) rfl ?_
  refine r_sub [1, 2, 0] (lv' := [(0, (22, a0)), (1, (0, a1)), (2, (0, 0))]) rfl ?_
  exact lp_ok (w := fun (q : hH × Int) => Wq p l e R s m args below meth c D G A H0 true n0 M_X12_judges x 0 0 211 [(0, (22, a0)), (1, (0, a1)), (2, (0, q.2))] [] (q.1)) (K := K) (fun ⟨q0, q1⟩ r h1 h2 => oX12_judges_s211 (K := Sum.elim (fun (q : hH × Int) => Wq p l e R s m args below meth c D G A H0 true n0 M_X12_judges x 0 0 211 [(0, (22, a0)), (1, (0, a1)), (2, (0, q.2))] [] (q.1)) (K)) (fun r z => k0 r z) (fun _ _ z => z) h1 h2) hr hk
set_option maxRecDepth 100000 in
set_option maxHeartbeats 4000000 in
theorem oX12_judges_s96 {h0 : hH} {a0 a1 l2 : Int} {K : (hH × Int) ⊕ (Int × hH) → Prop} (k0 : ∀ r, K (.inr (r)) → x = (some (0, r.1), r.2)) (k1 : ∀ (h : hH) (l2 : Int), K (.inl (h, l2)) → Wq p l e R s m args below meth c D G A H0 true n0 M_X12_judges x 0 0 96 [(0, (22, a0)), (1, (0, a1)), (2, (0, l2))] [] h) {r : (hH × Int) ⊕ (Int × hH)} (hr : fX12_judges_s96 h0 a0 a1 (h, l2) = some r) (hk : K r) : Wq p l e R s m args below meth c D G A H0 true n0 M_X12_judges x 0 0 96 [(0, (22, a0)), (1, (0, a1)), (2, (0, l2))] [] h := by
  unfold fX12_judges_s96 at hr
  refine r_iload_n dX12_judges_96 rfl 2 rfl (Or.inl rfl) ?_
  refine r_bipush dX12_judges_97 (by decide) (by decide) ?_
  refine r_icmp_ge dX12_judges_99 (tgt := 205) (by decide) (fun hc => ?_) (fun hc => ?_)
  · have hr := ifn hr hc
    refine r_sub [0, 1] (lv' := [(0, (22, a0)), (1, (0, a1))]) rfl ?_
    obtain ⟨r9, hr9, rfl⟩ := mpp hr
    exact oX12_judges_b205 (K := fun z9 => K (.inr (z9))) (fun r z => k0 r z) hr9 hk
  · have hr := ifp hr hc
    refine r_aload_n dX12_judges_102 rfl 0 rfl (nl rfl) ?_
    refine r_get 12 9 (o := a0) (w := (50, h a0 9)) (T := TX12) (ref := "FollowingRefsModel") rfl (by decide) rfl (by decide) inlX12 (wsl_7 _ (List.mem_of_getElem? (i := 11) rfl)) rfl dX12_judges_103 rfl ?_
    refine r_iload_n dX12_judges_106 rfl 1 rfl (Or.inl rfl) ?_
    obtain ⟨v107, hg107, hr⟩ := bnd hr
    refine r_iald dX12_judges_107 hg107 ?_
    refine r_if_le dX12_judges_108 (tgt := 205) (by decide) (fun hc => ?_) (fun hc => ?_)
    · have hr := ifn hr hc
      refine r_sub [0, 1] (lv' := [(0, (22, a0)), (1, (0, a1))]) rfl ?_
      obtain ⟨r9, hr9, rfl⟩ := mpp hr
      exact oX12_judges_b205 (K := fun z9 => K (.inr (z9))) (fun r z => k0 r z) hr9 hk
    · have hr := ifp hr hc
      refine r_aload_n dX12_judges_111 rfl 0 rfl (nl rfl) ?_
      refine r_iload_n dX12_judges_112 rfl 2 rfl (Or.inl rfl) ?_
      refine r_iload_n dX12_judges_113 rfl 1 rfl (Or.inl rfl) ?_
      obtain ⟨r114, hg114, hr⟩ := bnd hr
      refine k_V (ci := 12) (o := a0) (T := TX12) (as := [(0, l2), (0, a1)]) (rest := []) (X := (some (2, r114), h)) (oX12_isFound hg114) gX12_isFound rfl (by decide) rfl (wsl_43 _ (List.mem_of_getElem? (i := 5) rfl)) rfl dX12_judges_114 rfl ?_
      refine r_scast 0 (v := (2, r114)) (w := (0, r114)) rfl zc hTz (st' := [(0, r114)]) rfl ?_
      refine r_if_ne dX12_judges_117 (tgt := 123) (by decide) (fun hc => ?_) (fun hc => ?_)
      · have hr := ifn hr hc
        refine r_aload_n dX12_judges_123 rfl 0 rfl (nl rfl) ?_
        refine r_dup dX12_judges_124 (Nat.ne_of_beq_eq_false rfl) ?_
        refine r_get 12 31 (o := a0) (w := (0, h a0 31)) (T := TX12) (ref := "FollowingRefsModel") rfl (by decide) rfl (by decide) inlX12 (wsl_42 _ (List.mem_of_getElem? (i := 3) rfl)) rfl dX12_judges_125 rfl ?_
        refine r_iconst dX12_judges_128 (by decide) ?_
        refine r_iadd dX12_judges_129 ?_
        obtain ⟨h130, hg130, hr⟩ := bnd hr
        refine r_put' 12 31 (t := 0) (ref := "FollowingRefsModel") hg130 rfl tyX12 tyX12_ok nmX12 rfl (by decide) rfl (by decide) inlX12 (wsl_42 _ (List.mem_of_getElem? (i := 3) rfl)) rfl rfl (by decide +kernel) (by decide) rfl (Or.inl ⟨rfl, rfl⟩) dX12_judges_130 ?_
        refine r_aload_n dX12_judges_133 rfl 0 rfl (nl rfl) ?_
        refine r_get 12 9 (o := a0) (w := (50, h130 a0 9)) (T := TX12) (ref := "FollowingRefsModel") rfl (by decide) rfl (by decide) inlX12 (wsl_7 _ (List.mem_of_getElem? (i := 11) rfl)) rfl dX12_judges_134 rfl ?_
        refine r_iload_n dX12_judges_137 rfl 1 rfl (Or.inl rfl) ?_
        obtain ⟨v138, hg138, hr⟩ := bnd hr
        refine r_iald dX12_judges_138 hg138 ?_
        refine r_iconst dX12_judges_139 (by decide) ?_
        refine r_icmp_ne dX12_judges_140 (tgt := 150) (by decide) (fun hc => ?_) (fun hc => ?_)
        · have hr := ifn hr hc
          exact oX12_judges_b150 (K := K) (fun r z => k0 r z) (fun _ _ z => k1 _ _ z) hr hk
        · have hr := ifp hr hc
          refine r_aload_n dX12_judges_143 rfl 0 rfl (nl rfl) ?_
          refine r_get 12 29 (o := a0) (w := (50, h130 a0 29)) (T := TX12) (ref := "FollowingRefsModel") rfl (by decide) rfl (by decide) inlX12 (wsl_7 _ (List.mem_of_getElem? (i := 19) rfl)) rfl dX12_judges_144 rfl ?_
          refine r_iload_n dX12_judges_147 rfl 2 rfl (Or.inl rfl) ?_
          refine r_iconst dX12_judges_148 (by decide) ?_
          obtain ⟨h149, hg149, hr⟩ := bnd hr
          refine r_iast dX12_judges_149 hg149 ?_
          exact oX12_judges_b150 (K := K) (fun r z => k0 r z) (fun _ _ z => k1 _ _ z) hr hk
      · have hr := ifp hr hc
        refine r_goto dX12_judges_120 (tgt := 199) (by decide) ?_
        refine r_iinc (k := 2) (v := l2) dX12_judges_199 rfl (by decide) (lv' := [(2, (0, w32 (l2 + 1))), (0, (22, a0)), (1, (0, a1))]) rfl ?_
        refine r_goto dX12_judges_202 (tgt := 96) (by decide) ?_
        refine r_sub [1, 2, 0] (lv' := [(0, (22, a0)), (1, (0, a1)), (2, (0, w32 (l2 + 1)))]) rfl ?_
        obtain rfl := Option.some.inj hr
        exact k1 _ _ hk
set_option maxRecDepth 100000 in
set_option maxHeartbeats 4000000 in
theorem oX12_judges_b94 {a0 a1 : Int} {K : Int × hH → Prop} (k0 : ∀ r, K (r) → x = (some (0, r.1), r.2)) {r : Int × hH} (hr : fX12_judges_b94 h a0 a1 = some r) (hk : K r) : Wq p l e R s m args below meth c D G A H0 true n0 M_X12_judges x 0 0 94 [(0, (22, a0)), (1, (0, a1))] [] h := by
  unfold fX12_judges_b94 at hr
  refine r_iconst dX12_judges_94 (by decide) ?_
  refine r_istore_n dX12_judges_95 rfl (Or.inl rfl) (by decide) (lv' := [(2, (0, 0)), (0, (22, a0)), (1, (0, a1))]) rfl ?_
  refine r_sub [1, 2, 0] (lv' := [(0, (22, a0)), (1, (0, a1)), (2, (0, 0))]) rfl ?_
  exact lp_ok (w := fun (q : hH × Int) => Wq p l e R s m args below meth c D G A H0 true n0 M_X12_judges x 0 0 96 [(0, (22, a0)), (1, (0, a1)), (2, (0, q.2))] [] (q.1)) (K := K) (fun ⟨q0, q1⟩ r h1 h2 => oX12_judges_s96 (K := Sum.elim (fun (q : hH × Int) => Wq p l e R s m args below meth c D G A H0 true n0 M_X12_judges x 0 0 96 [(0, (22, a0)), (1, (0, a1)), (2, (0, q.2))] [] (q.1)) (K)) (fun r z => k0 r z) (fun _ _ z => z) h1 h2) hr hk
set_option maxRecDepth 100000 in
set_option maxHeartbeats 4000000 in
theorem oX12_judges_s2 {h0 : hH} {a0 a1 l2 : Int} {K : (hH × Int) ⊕ (Int × hH) → Prop} (k0 : ∀ r, K (.inr (r)) → x = (some (0, r.1), r.2)) (k1 : ∀ (h : hH) (l2 : Int), K (.inl (h, l2)) → Wq p l e R s m args below meth c D G A H0 true n0 M_X12_judges x 0 0 2 [(0, (22, a0)), (1, (0, a1)), (2, (0, l2))] [] h) {r : (hH × Int) ⊕ (Int × hH)} (hr : fX12_judges_s2 h0 a0 a1 (h, l2) = some r) (hk : K r) : Wq p l e R s m args below meth c D G A H0 true n0 M_X12_judges x 0 0 2 [(0, (22, a0)), (1, (0, a1)), (2, (0, l2))] [] h := by
  unfold fX12_judges_s2 at hr
  refine r_iload_n dX12_judges_2 rfl 2 rfl (Or.inl rfl) ?_
  refine r_sipush dX12_judges_3 (by decide) (by decide) ?_
  refine r_icmp_ge dX12_judges_6 (tgt := 31) (by decide) (fun hc => ?_) (fun hc => ?_)
  · have hr := ifn hr hc
    refine r_aload_n dX12_judges_31 rfl 0 rfl (nl rfl) ?_
    obtain ⟨h32, hg32, hr⟩ := bnd hr
    refine k_V (ci := 12) (o := a0) (T := TX12) (as := []) (rest := []) (X := (none, h32)) (oX12_laysAhead hg32) gX12_laysAhead rfl (by decide) rfl (wsl_42 _ (List.mem_of_getElem? (i := 9) rfl)) rfl dX12_judges_32 rfl ?_
    refine r_aload_n dX12_judges_35 rfl 0 rfl (nl rfl) ?_
    refine r_iconst dX12_judges_36 (by decide) ?_
    obtain ⟨h37, hg37, hr⟩ := bnd hr
    refine r_put' 12 31 (t := 0) (ref := "FollowingRefsModel") hg37 rfl tyX12 tyX12_ok nmX12 rfl (by decide) rfl (by decide) inlX12 (wsl_42 _ (List.mem_of_getElem? (i := 3) rfl)) rfl rfl (by decide +kernel) (by decide) rfl (Or.inl ⟨rfl, rfl⟩) dX12_judges_37 ?_
    refine r_aload_n dX12_judges_40 rfl 0 rfl (nl rfl) ?_
    refine r_iconst dX12_judges_41 (by decide) ?_
    obtain ⟨h42, hg42, hr⟩ := bnd hr
    refine r_put' 12 32 (t := 0) (ref := "FollowingRefsModel") hg42 rfl tyX12 tyX12_ok nmX12 rfl (by decide) rfl (by decide) inlX12 (wsl_42 _ (List.mem_of_getElem? (i := 4) rfl)) rfl rfl (by decide +kernel) (by decide) rfl (Or.inl ⟨rfl, rfl⟩) dX12_judges_42 ?_
    refine r_aload_n dX12_judges_45 rfl 0 rfl (nl rfl) ?_
    refine r_iconst dX12_judges_46 (by decide) ?_
    obtain ⟨h47, hg47, hr⟩ := bnd hr
    refine r_put' 12 33 (t := 0) (ref := "FollowingRefsModel") hg47 rfl tyX12 tyX12_ok nmX12 rfl (by decide) rfl (by decide) inlX12 (wsl_42 _ (List.mem_of_getElem? (i := 5) rfl)) rfl rfl (by decide +kernel) (by decide) rfl (Or.inl ⟨rfl, rfl⟩) dX12_judges_47 ?_
    refine r_aload_n dX12_judges_50 rfl 0 rfl (nl rfl) ?_
    refine r_iconst dX12_judges_51 (by decide) ?_
    refine r_scast 0 (v := (0, 0)) (w := (2, 0)) rfl cz (fun _ => Or.inl rfl) (st' := [(2, 0), (22, a0)]) rfl ?_
    obtain ⟨h52, hg52, hr⟩ := bnd hr
    refine r_put' 12 34 (t := 2) (ref := "FollowingRefsModel") hg52 rfl tyX12 tyX12_ok nmX12 rfl (by decide) rfl (by decide) inlX12 (wsl_42 _ (List.mem_of_getElem? (i := 6) rfl)) rfl rfl (by decide +kernel) (by decide) rfl (Or.inr (Or.inr (Or.inl ⟨rfl, rfl⟩))) dX12_judges_52 ?_
    refine r_aload_n dX12_judges_55 rfl 0 rfl (nl rfl) ?_
    refine r_iconst dX12_judges_56 (by decide) ?_
    obtain ⟨h57, hg57, hr⟩ := bnd hr
    refine r_put' 12 26 (t := 0) (ref := "FollowingRefsModel") hg57 rfl tyX12 tyX12_ok nmX12 rfl (by decide) rfl (by decide) inlX12 (wsl_42 _ (List.mem_of_getElem? (i := 7) rfl)) rfl rfl (by decide +kernel) (by decide) rfl (Or.inl ⟨rfl, rfl⟩) dX12_judges_57 ?_
    refine r_aload_n dX12_judges_60 rfl 0 rfl (nl rfl) ?_
    refine r_get 12 9 (o := a0) (w := (50, h57 a0 9)) (T := TX12) (ref := "FollowingRefsModel") rfl (by decide) rfl (by decide) inlX12 (wsl_7 _ (List.mem_of_getElem? (i := 11) rfl)) rfl dX12_judges_61 rfl ?_
    refine r_iload_n dX12_judges_64 rfl 1 rfl (Or.inl rfl) ?_
    obtain ⟨v65, hg65, hr⟩ := bnd hr
    refine r_iald dX12_judges_65 hg65 ?_
    refine r_if_ne dX12_judges_66 (tgt := 94) (by decide) (fun hc => ?_) (fun hc => ?_)
    · have hr := ifn hr hc
      refine r_sub [0, 1] (lv' := [(0, (22, a0)), (1, (0, a1))]) rfl ?_
      obtain ⟨r9, hr9, rfl⟩ := mpp hr
      exact oX12_judges_b94 (K := fun z9 => K (.inr (z9))) (fun r z => k0 r z) hr9 hk
    · have hr := ifp hr hc
      refine r_aload_n dX12_judges_69 rfl 0 rfl (nl rfl) ?_
      obtain ⟨r70, hg70, hr⟩ := bnd hr
      refine k_V (ci := 12) (o := a0) (T := TX12) (as := []) (rest := []) (X := (some (0, r70), h57)) (oX12_rowsNow hg70) gX12_rowsNow rfl (by decide) rfl (wsl_43 _ (List.mem_of_getElem? (i := 1) rfl)) rfl dX12_judges_70 rfl ?_
      refine r_bipush dX12_judges_73 (by decide) (by decide) ?_
      refine r_icmp_eq dX12_judges_75 (tgt := 91) (by decide) (fun hc => ?_) (fun hc => ?_)
      · have hr := ifp hr hc
        refine r_bipush dX12_judges_91 (by decide) (by decide) ?_
        obtain rfl := Option.some.inj hr
        exact r_ret dX12_judges_93 rfl (Or.inl ⟨rfl, rfl⟩) (k0 _ hk) ⟨rfl, rfl⟩
      · have hr := ifn hr hc
        refine r_aload_n dX12_judges_78 rfl 0 rfl (nl rfl) ?_
        refine r_get 12 6 (o := a0) (w := (50, h57 a0 6)) (T := TX12) (ref := "FollowingRefsModel") rfl (by decide) rfl (by decide) inlX12 (wsl_7 _ (List.mem_of_getElem? (i := 8) rfl)) rfl dX12_judges_79 rfl ?_
        refine r_sipush dX12_judges_82 (by decide) (by decide) ?_
        obtain ⟨v85, hg85, hr⟩ := bnd hr
        refine r_iald dX12_judges_85 hg85 ?_
        refine r_bipush dX12_judges_86 (by decide) (by decide) ?_
        refine r_icmp_ne dX12_judges_88 (tgt := 94) (by decide) (fun hc => ?_) (fun hc => ?_)
        · have hr := ifn hr hc
          refine r_sub [0, 1] (lv' := [(0, (22, a0)), (1, (0, a1))]) rfl ?_
          obtain ⟨r9, hr9, rfl⟩ := mpp hr
          exact oX12_judges_b94 (K := fun z9 => K (.inr (z9))) (fun r z => k0 r z) hr9 hk
        · have hr := ifp hr hc
          refine r_bipush dX12_judges_91 (by decide) (by decide) ?_
          obtain rfl := Option.some.inj hr
          exact r_ret dX12_judges_93 rfl (Or.inl ⟨rfl, rfl⟩) (k0 _ hk) ⟨rfl, rfl⟩
  · have hr := ifp hr hc
    refine r_aload_n dX12_judges_9 rfl 0 rfl (nl rfl) ?_
    refine r_get 12 30 (o := a0) (w := (50, h a0 30)) (T := TX12) (ref := "FollowingRefsModel") rfl (by decide) rfl (by decide) inlX12 (wsl_7 _ (List.mem_of_getElem? (i := 20) rfl)) rfl dX12_judges_10 rfl ?_
    refine r_iload_n dX12_judges_13 rfl 2 rfl (Or.inl rfl) ?_
    refine r_aload_n dX12_judges_14 rfl 0 rfl (nl rfl) ?_
    refine r_get 12 6 (o := a0) (w := (50, h a0 6)) (T := TX12) (ref := "FollowingRefsModel") rfl (by decide) rfl (by decide) inlX12 (wsl_7 _ (List.mem_of_getElem? (i := 8) rfl)) rfl dX12_judges_15 rfl ?_
    refine r_sipush dX12_judges_18 (by decide) (by decide) ?_
    refine r_iload_n dX12_judges_21 rfl 2 rfl (Or.inl rfl) ?_
    refine r_iadd dX12_judges_22 ?_
    obtain ⟨v23, hg23, hr⟩ := bnd hr
    refine r_iald dX12_judges_23 hg23 ?_
    obtain ⟨h24, hg24, hr⟩ := bnd hr
    refine r_iast dX12_judges_24 hg24 ?_
    refine r_iinc (k := 2) (v := l2) dX12_judges_25 rfl (by decide) (lv' := [(2, (0, w32 (l2 + 1))), (0, (22, a0)), (1, (0, a1))]) rfl ?_
    refine r_goto dX12_judges_28 (tgt := 2) (by decide) ?_
    refine r_sub [1, 2, 0] (lv' := [(0, (22, a0)), (1, (0, a1)), (2, (0, w32 (l2 + 1)))]) rfl ?_
    obtain rfl := Option.some.inj hr
    exact k1 _ _ hk
set_option maxRecDepth 100000 in
set_option maxHeartbeats 4000000 in
theorem oX12_judges_b0 {a0 a1 : Int} {K : Int × hH → Prop} (k0 : ∀ r, K (r) → x = (some (0, r.1), r.2)) {r : Int × hH} (hr : fX12_judges h a0 a1 = some r) (hk : K r) : Wq p l e R s m args below meth c D G A H0 true n0 M_X12_judges x 0 0 0 [(0, (22, a0)), (1, (0, a1))] [] h := by
  unfold fX12_judges at hr
  refine r_iconst dX12_judges_0 (by decide) ?_
  refine r_istore_n dX12_judges_1 rfl (Or.inl rfl) (by decide) (lv' := [(2, (0, 0)), (0, (22, a0)), (1, (0, a1))]) rfl ?_
  refine r_sub [1, 2, 0] (lv' := [(0, (22, a0)), (1, (0, a1)), (2, (0, 0))]) rfl ?_
  exact lp_ok (w := fun (q : hH × Int) => Wq p l e R s m args below meth c D G A H0 true n0 M_X12_judges x 0 0 2 [(0, (22, a0)), (1, (0, a1)), (2, (0, q.2))] [] (q.1)) (K := K) (fun ⟨q0, q1⟩ r h1 h2 => oX12_judges_s2 (K := Sum.elim (fun (q : hH × Int) => Wq p l e R s m args below meth c D G A H0 true n0 M_X12_judges x 0 0 2 [(0, (22, a0)), (1, (0, a1)), (2, (0, q.2))] [] (q.1)) (K)) (fun r z => k0 r z) (fun _ _ z => z) h1 h2) hr hk
end M_X12_judges
theorem oX12_judges {l : Launch} {D : va_G} {G : gG} {h : hH} {a0 a1 : Int} {r : Int × hH} (hr : fX12_judges h a0 a1 = some r) : Ctr l D G true yX12_judges M_X12_judges [(22, a0), (0, a1)] h (some (0, r.1), r.2) :=
  Ctr_of (by decide) rfl (fun z => by cases z) (nl rfl) (fun {p e R s m args below meth c A H0} => by
    exact oX12_judges_b0 (K := fun z9 => z9 = r) (fun r9 z => by rw [z]) hr rfl)
