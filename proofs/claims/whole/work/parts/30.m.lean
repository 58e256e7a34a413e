/-! X12_ref -/
theorem dX12_ref_0 : decode cX12_ref 0 = .ok (.aload_n 0, 1) := by decide +kernel
theorem dX12_ref_1 : decode cX12_ref 1 = .ok (.iconst 0, 1) := by decide +kernel
theorem dX12_ref_2 : decode cX12_ref 2 = .ok (.putfield 1, 3) := by decide +kernel
theorem dX12_ref_5 : decode cX12_ref 5 = .ok (.iload_n 1, 1) := by decide +kernel
theorem dX12_ref_6 : decode cX12_ref 6 = .ok (.iconst 0, 1) := by decide +kernel
theorem dX12_ref_7 : decode cX12_ref 7 = .ok (.aload_n 0, 1) := by decide +kernel
theorem dX12_ref_8 : decode cX12_ref 8 = .ok (.getfield 33, 3) := by decide +kernel
theorem dX12_ref_11 : decode cX12_ref 11 = .ok (.iconst 2, 1) := by decide +kernel
theorem dX12_ref_12 : decode cX12_ref 12 = .ok (.iaload, 1) := by decide +kernel
theorem dX12_ref_13 : decode cX12_ref 13 = .ok (.iconst 1, 1) := by decide +kernel
theorem dX12_ref_14 : decode cX12_ref 14 = .ok (.isub, 1) := by decide +kernel
theorem dX12_ref_15 : decode cX12_ref 15 = .ok (.invokestatic 229, 3) := by decide +kernel
theorem dX12_ref_18 : decode cX12_ref 18 = .ok (.ifCond .ne 5, 3) := by decide +kernel
theorem dX12_ref_21 : decode cX12_ref 21 = .ok (.iconst (-1), 1) := by decide +kernel
theorem dX12_ref_22 : decode cX12_ref 22 = .ok (.ireturn, 1) := by decide +kernel
theorem dX12_ref_23 : decode cX12_ref 23 = .ok (.iload_n 2, 1) := by decide +kernel
theorem dX12_ref_24 : decode cX12_ref 24 = .ok (.tableswitch 114 0 6 #[44, 54, 64, 74, 84, 94, 104], 44) := by decide +kernel
theorem dX12_ref_68 : decode cX12_ref 68 = .ok (.aload_n 0, 1) := by decide +kernel
theorem dX12_ref_69 : decode cX12_ref 69 = .ok (.getfield 33, 3) := by decide +kernel
theorem dX12_ref_72 : decode cX12_ref 72 = .ok (.bipush 58, 2) := by decide +kernel
theorem dX12_ref_74 : decode cX12_ref 74 = .ok (.iload_n 1, 1) := by decide +kernel
theorem dX12_ref_75 : decode cX12_ref 75 = .ok (.iadd, 1) := by decide +kernel
theorem dX12_ref_76 : decode cX12_ref 76 = .ok (.iaload, 1) := by decide +kernel
theorem dX12_ref_77 : decode cX12_ref 77 = .ok (.ireturn, 1) := by decide +kernel
theorem dX12_ref_78 : decode cX12_ref 78 = .ok (.aload_n 0, 1) := by decide +kernel
theorem dX12_ref_79 : decode cX12_ref 79 = .ok (.getfield 33, 3) := by decide +kernel
theorem dX12_ref_82 : decode cX12_ref 82 = .ok (.bipush 76, 2) := by decide +kernel
theorem dX12_ref_84 : decode cX12_ref 84 = .ok (.iload_n 1, 1) := by decide +kernel
theorem dX12_ref_85 : decode cX12_ref 85 = .ok (.iadd, 1) := by decide +kernel
theorem dX12_ref_86 : decode cX12_ref 86 = .ok (.iaload, 1) := by decide +kernel
theorem dX12_ref_87 : decode cX12_ref 87 = .ok (.ireturn, 1) := by decide +kernel
theorem dX12_ref_88 : decode cX12_ref 88 = .ok (.aload_n 0, 1) := by decide +kernel
theorem dX12_ref_89 : decode cX12_ref 89 = .ok (.getfield 33, 3) := by decide +kernel
theorem dX12_ref_92 : decode cX12_ref 92 = .ok (.bipush 82, 2) := by decide +kernel
theorem dX12_ref_94 : decode cX12_ref 94 = .ok (.iload_n 1, 1) := by decide +kernel
theorem dX12_ref_95 : decode cX12_ref 95 = .ok (.iadd, 1) := by decide +kernel
theorem dX12_ref_96 : decode cX12_ref 96 = .ok (.iaload, 1) := by decide +kernel
theorem dX12_ref_97 : decode cX12_ref 97 = .ok (.ireturn, 1) := by decide +kernel
theorem dX12_ref_98 : decode cX12_ref 98 = .ok (.aload_n 0, 1) := by decide +kernel
theorem dX12_ref_99 : decode cX12_ref 99 = .ok (.getfield 33, 3) := by decide +kernel
theorem dX12_ref_102 : decode cX12_ref 102 = .ok (.bipush 88, 2) := by decide +kernel
theorem dX12_ref_104 : decode cX12_ref 104 = .ok (.iload_n 1, 1) := by decide +kernel
theorem dX12_ref_105 : decode cX12_ref 105 = .ok (.iadd, 1) := by decide +kernel
theorem dX12_ref_106 : decode cX12_ref 106 = .ok (.iaload, 1) := by decide +kernel
theorem dX12_ref_107 : decode cX12_ref 107 = .ok (.ireturn, 1) := by decide +kernel
theorem dX12_ref_108 : decode cX12_ref 108 = .ok (.aload_n 0, 1) := by decide +kernel
theorem dX12_ref_109 : decode cX12_ref 109 = .ok (.getfield 33, 3) := by decide +kernel
theorem dX12_ref_112 : decode cX12_ref 112 = .ok (.bipush 94, 2) := by decide +kernel
theorem dX12_ref_114 : decode cX12_ref 114 = .ok (.iload_n 1, 1) := by decide +kernel
theorem dX12_ref_115 : decode cX12_ref 115 = .ok (.iadd, 1) := by decide +kernel
theorem dX12_ref_116 : decode cX12_ref 116 = .ok (.iaload, 1) := by decide +kernel
theorem dX12_ref_117 : decode cX12_ref 117 = .ok (.ireturn, 1) := by decide +kernel
theorem dX12_ref_118 : decode cX12_ref 118 = .ok (.aload_n 0, 1) := by decide +kernel
theorem dX12_ref_119 : decode cX12_ref 119 = .ok (.getfield 33, 3) := by decide +kernel
theorem dX12_ref_122 : decode cX12_ref 122 = .ok (.bipush 100, 2) := by decide +kernel
theorem dX12_ref_124 : decode cX12_ref 124 = .ok (.iload_n 1, 1) := by decide +kernel
theorem dX12_ref_125 : decode cX12_ref 125 = .ok (.iadd, 1) := by decide +kernel
theorem dX12_ref_126 : decode cX12_ref 126 = .ok (.iaload, 1) := by decide +kernel
theorem dX12_ref_127 : decode cX12_ref 127 = .ok (.ireturn, 1) := by decide +kernel
theorem dX12_ref_128 : decode cX12_ref 128 = .ok (.aload_n 0, 1) := by decide +kernel
theorem dX12_ref_129 : decode cX12_ref 129 = .ok (.getfield 33, 3) := by decide +kernel
theorem dX12_ref_132 : decode cX12_ref 132 = .ok (.bipush 106, 2) := by decide +kernel
theorem dX12_ref_134 : decode cX12_ref 134 = .ok (.iload_n 1, 1) := by decide +kernel
theorem dX12_ref_135 : decode cX12_ref 135 = .ok (.iadd, 1) := by decide +kernel
theorem dX12_ref_136 : decode cX12_ref 136 = .ok (.iaload, 1) := by decide +kernel
theorem dX12_ref_137 : decode cX12_ref 137 = .ok (.ireturn, 1) := by decide +kernel
theorem dX12_ref_138 : decode cX12_ref 138 = .ok (.iconst (-1), 1) := by decide +kernel
theorem dX12_ref_139 : decode cX12_ref 139 = .ok (.ireturn, 1) := by decide +kernel
abbrev M_X12_ref : mM := (cX12_ref, 3, RX12, some .int, false, 1, 22, 0, 0)
theorem gX12_ref : cI yX12_ref M_X12_ref 2 := ⟨(wsl_59 _ (List.mem_of_getElem? (i := 7) rfl)), (wsl_59 _ (List.mem_of_getElem? (i := 8) rfl)), (wsl_1 _ (List.mem_of_getElem? (i := 5) rfl)), (wsl_59 _ (List.mem_of_getElem? (i := 9) rfl)), by decide +kernel⟩
noncomputable def fX12_ref (h : hH) (a0 a1 a2 : Int) : Option (Int × hH) :=
  (pput h a0 0 0).bind fun h2 =>
  (aget h2 (h2 a0 6) 2).bind fun v12 =>
  (fX12_isIn h2 a1 0 (w32 (v12 - 1))).bind fun r15 =>
  if r15 = 0 then
    some (-1, h2)
  else
    if a2 = 0 then
      (aget h2 (h2 a0 6) (w32 (58 + a1))).bind fun v76 =>
      some (v76, h2)
    else
      if a2 = 1 then
        (aget h2 (h2 a0 6) (w32 (76 + a1))).bind fun v86 =>
        some (v86, h2)
      else
        if a2 = 2 then
          (aget h2 (h2 a0 6) (w32 (82 + a1))).bind fun v96 =>
          some (v96, h2)
        else
          if a2 = 3 then
            (aget h2 (h2 a0 6) (w32 (88 + a1))).bind fun v106 =>
            some (v106, h2)
          else
            if a2 = 4 then
              (aget h2 (h2 a0 6) (w32 (94 + a1))).bind fun v116 =>
              some (v116, h2)
            else
              if a2 = 5 then
                (aget h2 (h2 a0 6) (w32 (100 + a1))).bind fun v126 =>
                some (v126, h2)
              else
                if a2 = 6 then
                  (aget h2 (h2 a0 6) (w32 (106 + a1))).bind fun v136 =>
                  some (v136, h2)
                else
                  some (-1, h2)
section M_X12_ref
variable {p : Program} {l : Launch} {e : Env} {R : Room} {s : State} {m : MethodId} {args : Array Value} {below : List Frame} {meth : Method} {c : Code} {D : va_G} {G : gG} {A : Nat → Prop} {H0 : Heap} {n0 : Int} {x : Option vV × hH} {h : hH}
set_option maxRecDepth 100000 in
set_option maxHeartbeats 4000000 in
theorem oX12_ref_b0 {a0 a1 a2 : Int} {K : Int × hH → Prop} (k0 : ∀ r, K (r) → x = (some (0, r.1), r.2)) {r : Int × hH} (hr : fX12_ref h a0 a1 a2 = some r) (hk : K r) : Wq p l e R s m args below meth c D G A H0 true n0 M_X12_ref x 0 0 0 [(0, (22, a0)), (1, (0, a1)), (2, (0, a2))] [] h := by
  unfold fX12_ref at hr
  refine r_aload_n dX12_ref_0 rfl 0 rfl (nl rfl) ?_
  refine r_iconst dX12_ref_1 (by decide) ?_
  obtain ⟨h2, hg2, hr⟩ := bnd hr
  refine r_put' 12 0 (t := 0) (ref := "FollowingRefsModel") hg2 rfl tyX12 tyX12_ok nmX12 rfl (by decide) rfl (by decide) inlX12 (wsl_10 _ (List.mem_of_getElem? (i := 11) rfl)) rfl rfl (by decide +kernel) (by decide) rfl (Or.inl ⟨rfl, rfl⟩) dX12_ref_2 ?_
  refine r_iload_n dX12_ref_5 rfl 1 rfl (Or.inl rfl) ?_
  refine r_iconst dX12_ref_6 (by decide) ?_
  refine r_aload_n dX12_ref_7 rfl 0 rfl (nl rfl) ?_
  refine r_get 12 6 (o := a0) (w := (50, h2 a0 6)) (T := TX12) (ref := "FollowingRefsModel") rfl (by decide) rfl (by decide) inlX12 (wsl_7 _ (List.mem_of_getElem? (i := 8) rfl)) rfl dX12_ref_8 rfl ?_
  refine r_iconst dX12_ref_11 (by decide) ?_
  obtain ⟨v12, hg12, hr⟩ := bnd hr
  refine r_iald dX12_ref_12 hg12 ?_
  refine r_iconst dX12_ref_13 (by decide) ?_
  refine r_isub dX12_ref_14 ?_
  obtain ⟨r15, hg15, hr⟩ := bnd hr
  refine k_S (as := [(0, a1), (0, 0), (0, w32 (v12 - 1))]) (rest := []) (X := (some (2, r15), h2)) (oX12_isIn hg15) gX12_isIn rfl (wsl_28 _ (List.mem_of_getElem? (i := 1) rfl)) rfl dX12_ref_15 rfl ?_
  refine r_scast 0 (v := (2, r15)) (w := (0, r15)) rfl zc hTz (st' := [(0, r15)]) rfl ?_
  refine r_if_ne dX12_ref_18 (tgt := 23) (by decide) (fun hc => ?_) (fun hc => ?_)
  · have hr := ifn hr hc
    refine r_iload_n dX12_ref_23 rfl 2 rfl (Or.inl rfl) ?_
    by_cases hs0 : a2 = 0
    · have hr := ifp hr hs0
      refine r_tableIn dX12_ref_24 (by omega) (by omega) (off := 44) (by rw [hs0]; rfl) (tgt := 68) (by decide) ?_
      refine r_aload_n dX12_ref_68 rfl 0 rfl (nl rfl) ?_
      refine r_get 12 6 (o := a0) (w := (50, h2 a0 6)) (T := TX12) (ref := "FollowingRefsModel") rfl (by decide) rfl (by decide) inlX12 (wsl_7 _ (List.mem_of_getElem? (i := 8) rfl)) rfl dX12_ref_69 rfl ?_
      refine r_bipush dX12_ref_72 (by decide) (by decide) ?_
      refine r_iload_n dX12_ref_74 rfl 1 rfl (Or.inl rfl) ?_
      refine r_iadd dX12_ref_75 ?_
      obtain ⟨v76, hg76, hr⟩ := bnd hr
      refine r_iald dX12_ref_76 hg76 ?_
      obtain rfl := Option.some.inj hr
      exact r_ret dX12_ref_77 rfl (Or.inl ⟨rfl, rfl⟩) (k0 _ hk) ⟨rfl, rfl⟩
    have hr := ifn hr hs0
    by_cases hs1 : a2 = 1
    · have hr := ifp hr hs1
      refine r_tableIn dX12_ref_24 (by omega) (by omega) (off := 54) (by rw [hs1]; rfl) (tgt := 78) (by decide) ?_
      refine r_aload_n dX12_ref_78 rfl 0 rfl (nl rfl) ?_
      refine r_get 12 6 (o := a0) (w := (50, h2 a0 6)) (T := TX12) (ref := "FollowingRefsModel") rfl (by decide) rfl (by decide) inlX12 (wsl_7 _ (List.mem_of_getElem? (i := 8) rfl)) rfl dX12_ref_79 rfl ?_
      refine r_bipush dX12_ref_82 (by decide) (by decide) ?_
      refine r_iload_n dX12_ref_84 rfl 1 rfl (Or.inl rfl) ?_
      refine r_iadd dX12_ref_85 ?_
      obtain ⟨v86, hg86, hr⟩ := bnd hr
      refine r_iald dX12_ref_86 hg86 ?_
      obtain rfl := Option.some.inj hr
      exact r_ret dX12_ref_87 rfl (Or.inl ⟨rfl, rfl⟩) (k0 _ hk) ⟨rfl, rfl⟩
    have hr := ifn hr hs1
    by_cases hs2 : a2 = 2
    · have hr := ifp hr hs2
      refine r_tableIn dX12_ref_24 (by omega) (by omega) (off := 64) (by rw [hs2]; rfl) (tgt := 88) (by decide) ?_
      refine r_aload_n dX12_ref_88 rfl 0 rfl (nl rfl) ?_
      refine r_get 12 6 (o := a0) (w := (50, h2 a0 6)) (T := TX12) (ref := "FollowingRefsModel") rfl (by decide) rfl (by decide) inlX12 (wsl_7 _ (List.mem_of_getElem? (i := 8) rfl)) rfl dX12_ref_89 rfl ?_
      refine r_bipush dX12_ref_92 (by decide) (by decide) ?_
      refine r_iload_n dX12_ref_94 rfl 1 rfl (Or.inl rfl) ?_
      refine r_iadd dX12_ref_95 ?_
      obtain ⟨v96, hg96, hr⟩ := bnd hr
      refine r_iald dX12_ref_96 hg96 ?_
      obtain rfl := Option.some.inj hr
      exact r_ret dX12_ref_97 rfl (Or.inl ⟨rfl, rfl⟩) (k0 _ hk) ⟨rfl, rfl⟩
    have hr := ifn hr hs2
    by_cases hs3 : a2 = 3
    · have hr := ifp hr hs3
      refine r_tableIn dX12_ref_24 (by omega) (by omega) (off := 74) (by rw [hs3]; rfl) (tgt := 98) (by decide) ?_
      refine r_aload_n dX12_ref_98 rfl 0 rfl (nl rfl) ?_
      refine r_get 12 6 (o := a0) (w := (50, h2 a0 6)) (T := TX12) (ref := "FollowingRefsModel") rfl (by decide) rfl (by decide) inlX12 (wsl_7 _ (List.mem_of_getElem? (i := 8) rfl)) rfl dX12_ref_99 rfl ?_
      refine r_bipush dX12_ref_102 (by decide) (by decide) ?_
      refine r_iload_n dX12_ref_104 rfl 1 rfl (Or.inl rfl) ?_
      refine r_iadd dX12_ref_105 ?_
      obtain ⟨v106, hg106, hr⟩ := bnd hr
      refine r_iald dX12_ref_106 hg106 ?_
      obtain rfl := Option.some.inj hr
      exact r_ret dX12_ref_107 rfl (Or.inl ⟨rfl, rfl⟩) (k0 _ hk) ⟨rfl, rfl⟩
    have hr := ifn hr hs3
    by_cases hs4 : a2 = 4
    · have hr := ifp hr hs4
      refine r_tableIn dX12_ref_24 (by omega) (by omega) (off := 84) (by rw [hs4]; rfl) (tgt := 108) (by decide) ?_
      refine r_aload_n dX12_ref_108 rfl 0 rfl (nl rfl) ?_
      refine r_get 12 6 (o := a0) (w := (50, h2 a0 6)) (T := TX12) (ref := "FollowingRefsModel") rfl (by decide) rfl (by decide) inlX12 (wsl_7 _ (List.mem_of_getElem? (i := 8) rfl)) rfl dX12_ref_109 rfl ?_
      refine r_bipush dX12_ref_112 (by decide) (by decide) ?_
      refine r_iload_n dX12_ref_114 rfl 1 rfl (Or.inl rfl) ?_
      refine r_iadd dX12_ref_115 ?_
      obtain ⟨v116, hg116, hr⟩ := bnd hr
      refine r_iald dX12_ref_116 hg116 ?_
      obtain rfl := Option.some.inj hr
      exact r_ret dX12_ref_117 rfl (Or.inl ⟨rfl, rfl⟩) (k0 _ hk) ⟨rfl, rfl⟩
    have hr := ifn hr hs4
    by_cases hs5 : a2 = 5
    · have hr := ifp hr hs5
      refine r_tableIn dX12_ref_24 (by omega) (by omega) (off := 94) (by rw [hs5]; rfl) (tgt := 118) (by decide) ?_
      refine r_aload_n dX12_ref_118 rfl 0 rfl (nl rfl) ?_
      refine r_get 12 6 (o := a0) (w := (50, h2 a0 6)) (T := TX12) (ref := "FollowingRefsModel") rfl (by decide) rfl (by decide) inlX12 (wsl_7 _ (List.mem_of_getElem? (i := 8) rfl)) rfl dX12_ref_119 rfl ?_
      refine r_bipush dX12_ref_122 (by decide) (by decide) ?_
      refine r_iload_n dX12_ref_124 rfl 1 rfl (Or.inl rfl) ?_
      refine r_iadd dX12_ref_125 ?_
      obtain ⟨v126, hg126, hr⟩ := bnd hr
      refine r_iald dX12_ref_126 hg126 ?_
      obtain rfl := Option.some.inj hr
      exact r_ret dX12_ref_127 rfl (Or.inl ⟨rfl, rfl⟩) (k0 _ hk) ⟨rfl, rfl⟩
    have hr := ifn hr hs5
    by_cases hs6 : a2 = 6
    · have hr := ifp hr hs6
      refine r_tableIn dX12_ref_24 (by omega) (by omega) (off := 104) (by rw [hs6]; rfl) (tgt := 128) (by decide) ?_
      refine r_aload_n dX12_ref_128 rfl 0 rfl (nl rfl) ?_
      refine r_get 12 6 (o := a0) (w := (50, h2 a0 6)) (T := TX12) (ref := "FollowingRefsModel") rfl (by decide) rfl (by decide) inlX12 (wsl_7 _ (List.mem_of_getElem? (i := 8) rfl)) rfl dX12_ref_129 rfl ?_
      refine r_bipush dX12_ref_132 (by decide) (by decide) ?_
      refine r_iload_n dX12_ref_134 rfl 1 rfl (Or.inl rfl) ?_
      refine r_iadd dX12_ref_135 ?_
      obtain ⟨v136, hg136, hr⟩ := bnd hr
      refine r_iald dX12_ref_136 hg136 ?_
      obtain rfl := Option.some.inj hr
      exact r_ret dX12_ref_137 rfl (Or.inl ⟨rfl, rfl⟩) (k0 _ hk) ⟨rfl, rfl⟩
    have hr := ifn hr hs6
    refine r_tableOut dX12_ref_24 (by omega) (tgt := 138) (by decide) ?_
    refine r_iconst dX12_ref_138 (by decide) ?_
    obtain rfl := Option.some.inj hr
    exact r_ret dX12_ref_139 rfl (Or.inl ⟨rfl, rfl⟩) (k0 _ hk) ⟨rfl, rfl⟩
  · have hr := ifp hr hc
    refine r_iconst dX12_ref_21 (by decide) ?_
    obtain rfl := Option.some.inj hr
    exact r_ret dX12_ref_22 rfl (Or.inl ⟨rfl, rfl⟩) (k0 _ hk) ⟨rfl, rfl⟩
end M_X12_ref
theorem oX12_ref {l : Launch} {D : va_G} {G : gG} {h : hH} {a0 a1 a2 : Int} {r : Int × hH} (hr : fX12_ref h a0 a1 a2 = some r) : Ctr l D G true yX12_ref M_X12_ref [(22, a0), (0, a1), (0, a2)] h (some (0, r.1), r.2) :=
  Ctr_of (by decide) rfl (fun z => by cases z) (nl rfl) (fun {p e R s m args below meth c A H0} => by
    exact oX12_ref_b0 (K := fun z9 => z9 = r) (fun r9 z => by rw [z]) hr rfl)
/-! X12_isFree -/
theorem dX12_isFree_0 : decode cX12_isFree 0 = .ok (.iload_n 2, 1) := by decide +kernel
theorem dX12_isFree_1 : decode cX12_isFree 1 = .ok (.iload_n 1, 1) := by decide +kernel
theorem dX12_isFree_2 : decode cX12_isFree 2 = .ok (.invokestatic 502, 3) := by decide +kernel
theorem dX12_isFree_5 : decode cX12_isFree 5 = .ok (.ifCond .ne 7, 3) := by decide +kernel
theorem dX12_isFree_8 : decode cX12_isFree 8 = .ok (.iconst 1, 1) := by decide +kernel
theorem dX12_isFree_9 : decode cX12_isFree 9 = .ok (.goto 4, 3) := by decide +kernel
theorem dX12_isFree_12 : decode cX12_isFree 12 = .ok (.iconst 0, 1) := by decide +kernel
theorem dX12_isFree_13 : decode cX12_isFree 13 = .ok (.istore_n 3, 1) := by decide +kernel
theorem dX12_isFree_14 : decode cX12_isFree 14 = .ok (.iconst 0, 1) := by decide +kernel
theorem dX12_isFree_15 : decode cX12_isFree 15 = .ok (.istore 4, 2) := by decide +kernel
theorem dX12_isFree_17 : decode cX12_isFree 17 = .ok (.iload 4, 2) := by decide +kernel
theorem dX12_isFree_19 : decode cX12_isFree 19 = .ok (.aload_n 0, 1) := by decide +kernel
theorem dX12_isFree_20 : decode cX12_isFree 20 = .ok (.getfield 33, 3) := by decide +kernel
theorem dX12_isFree_23 : decode cX12_isFree 23 = .ok (.iconst 2, 1) := by decide +kernel
theorem dX12_isFree_24 : decode cX12_isFree 24 = .ok (.iaload, 1) := by decide +kernel
theorem dX12_isFree_25 : decode cX12_isFree 25 = .ok (.if_icmp .ge 64, 3) := by decide +kernel
theorem dX12_isFree_28 : decode cX12_isFree 28 = .ok (.iload_n 3, 1) := by decide +kernel
theorem dX12_isFree_29 : decode cX12_isFree 29 = .ok (.ifCond .eq 52, 3) := by decide +kernel
theorem dX12_isFree_32 : decode cX12_isFree 32 = .ok (.aload_n 0, 1) := by decide +kernel
theorem dX12_isFree_33 : decode cX12_isFree 33 = .ok (.getfield 33, 3) := by decide +kernel
theorem dX12_isFree_36 : decode cX12_isFree 36 = .ok (.bipush 58, 2) := by decide +kernel
theorem dX12_isFree_38 : decode cX12_isFree 38 = .ok (.iload 4, 2) := by decide +kernel
theorem dX12_isFree_40 : decode cX12_isFree 40 = .ok (.iadd, 1) := by decide +kernel
theorem dX12_isFree_41 : decode cX12_isFree 41 = .ok (.iaload, 1) := by decide +kernel
theorem dX12_isFree_42 : decode cX12_isFree 42 = .ok (.iload_n 1, 1) := by decide +kernel
theorem dX12_isFree_43 : decode cX12_isFree 43 = .ok (.if_icmp .ne 34, 3) := by decide +kernel
theorem dX12_isFree_46 : decode cX12_isFree 46 = .ok (.aload_n 0, 1) := by decide +kernel
theorem dX12_isFree_47 : decode cX12_isFree 47 = .ok (.getfield 33, 3) := by decide +kernel
theorem dX12_isFree_50 : decode cX12_isFree 50 = .ok (.bipush 76, 2) := by decide +kernel
theorem dX12_isFree_52 : decode cX12_isFree 52 = .ok (.iload 4, 2) := by decide +kernel
theorem dX12_isFree_54 : decode cX12_isFree 54 = .ok (.iadd, 1) := by decide +kernel
theorem dX12_isFree_55 : decode cX12_isFree 55 = .ok (.iaload, 1) := by decide +kernel
theorem dX12_isFree_56 : decode cX12_isFree 56 = .ok (.iload_n 1, 1) := by decide +kernel
theorem dX12_isFree_57 : decode cX12_isFree 57 = .ok (.if_icmp .eq 20, 3) := by decide +kernel
theorem dX12_isFree_60 : decode cX12_isFree 60 = .ok (.iload_n 2, 1) := by decide +kernel
theorem dX12_isFree_61 : decode cX12_isFree 61 = .ok (.aload_n 0, 1) := by decide +kernel
theorem dX12_isFree_62 : decode cX12_isFree 62 = .ok (.getfield 33, 3) := by decide +kernel
theorem dX12_isFree_65 : decode cX12_isFree 65 = .ok (.bipush 76, 2) := by decide +kernel
theorem dX12_isFree_67 : decode cX12_isFree 67 = .ok (.iload 4, 2) := by decide +kernel
theorem dX12_isFree_69 : decode cX12_isFree 69 = .ok (.iadd, 1) := by decide +kernel
theorem dX12_isFree_70 : decode cX12_isFree 70 = .ok (.iaload, 1) := by decide +kernel
theorem dX12_isFree_71 : decode cX12_isFree 71 = .ok (.invokestatic 502, 3) := by decide +kernel
theorem dX12_isFree_74 : decode cX12_isFree 74 = .ok (.ifCond .eq 7, 3) := by decide +kernel
theorem dX12_isFree_77 : decode cX12_isFree 77 = .ok (.iconst 1, 1) := by decide +kernel
theorem dX12_isFree_78 : decode cX12_isFree 78 = .ok (.goto 4, 3) := by decide +kernel
theorem dX12_isFree_81 : decode cX12_isFree 81 = .ok (.iconst 0, 1) := by decide +kernel
theorem dX12_isFree_82 : decode cX12_isFree 82 = .ok (.istore_n 3, 1) := by decide +kernel
theorem dX12_isFree_83 : decode cX12_isFree 83 = .ok (.iinc 4 1, 3) := by decide +kernel
theorem dX12_isFree_86 : decode cX12_isFree 86 = .ok (.goto (-69), 3) := by decide +kernel
theorem dX12_isFree_89 : decode cX12_isFree 89 = .ok (.iload_n 3, 1) := by decide +kernel
theorem dX12_isFree_90 : decode cX12_isFree 90 = .ok (.ireturn, 1) := by decide +kernel
abbrev M_X12_isFree : mM := (cX12_isFree, 5, RX12, some .boolean, false, 1, 21, 0, 0)
theorem gX12_isFree : cI yX12_isFree M_X12_isFree 2 := ⟨(wsl_60 _ (List.mem_of_getElem? (i := 5) rfl)), (wsl_60 _ (List.mem_of_getElem? (i := 6) rfl)), (wsl_1 _ (List.mem_of_getElem? (i := 5) rfl)), (wsl_60 _ (List.mem_of_getElem? (i := 7) rfl)), by decide +kernel⟩
noncomputable def fX12_isFree_b77 (h : hH) (a0 a1 a2 l4 : Int) : Option ((Int × Int) ⊕ (Int)) :=
  some (.inl (1, w32 (l4 + 1)))
noncomputable def fX12_isFree_s17 (h : hH) (a0 a1 a2 : Int) : Int × Int → Option ((Int × Int) ⊕ (Int)) := fun (l3, l4) =>
  (aget h (h a0 6) 2).bind fun v24 =>
  if l4 < v24 then
    if l3 = 0 then
      some (.inl (0, w32 (l4 + 1)))
    else
      (aget h (h a0 6) (w32 (58 + l4))).bind fun v41 =>
      if v41 = a1 then
        (aget h (h a0 6) (w32 (76 + l4))).bind fun v55 =>
        if v55 = a1 then
          fX12_isFree_b77 h a0 a1 a2 l4
        else
          (aget h (h a0 6) (w32 (76 + l4))).bind fun v70 =>
          (fX12_bitOf h a2 v70).bind fun r71 =>
          if r71 = 0 then
            some (.inl (0, w32 (l4 + 1)))
          else
            fX12_isFree_b77 h a0 a1 a2 l4
      else
        fX12_isFree_b77 h a0 a1 a2 l4
  else
    some (.inr (l3))
noncomputable def fX12_isFree_b13 (h : hH) (a0 a1 a2 s0 : Int) : Option (Int) :=
  lpO (fX12_isFree_s17 h a0 a1 a2) (s0, 0)
noncomputable def fX12_isFree (h : hH) (a0 a1 a2 : Int) : Option (Int) :=
  (fX12_bitOf h a2 a1).bind fun r2 =>
  if r2 = 0 then
    fX12_isFree_b13 h a0 a1 a2 1
  else
    fX12_isFree_b13 h a0 a1 a2 0
section M_X12_isFree
variable {p : Program} {l : Launch} {e : Env} {R : Room} {s : State} {m : MethodId} {args : Array Value} {below : List Frame} {meth : Method} {c : Code} {D : va_G} {G : gG} {A : Nat → Prop} {H0 : Heap} {n0 : Int} {x : Option vV × hH} {h : hH}
set_option maxRecDepth 100000 in
set_option maxHeartbeats 4000000 in
theorem oX12_isFree_b77 {a0 a1 a2 l4 : Int} {K : (Int × Int) ⊕ (Int) → Prop} (k0 : ∀ r, K (.inr (r)) → x = (some (2, r), h)) (k1 : ∀ (l3 : Int) (l4 : Int), K (.inl (l3, l4)) → Wq p l e R s m args below meth c D G A H0 true n0 M_X12_isFree x 0 0 17 [(0, (22, a0)), (1, (0, a1)), (2, (0, a2)), (3, (2, l3)), (4, (0, l4))] [] h) {r : (Int × Int) ⊕ (Int)} (hr : fX12_isFree_b77 h a0 a1 a2 l4 = some r) (hk : K r) : Wq p l e R s m args below meth c D G A H0 true n0 M_X12_isFree x 0 0 77 [(0, (22, a0)), (1, (0, a1)), (2, (0, a2)), (4, (0, l4))] [] h := by
  unfold fX12_isFree_b77 at hr
  refine r_iconst dX12_isFree_77 (by decide) ?_
  refine r_goto dX12_isFree_78 (tgt := 82) (by decide) ?_
  refine r_istore_n dX12_isFree_82 rfl (Or.inl rfl) (by decide) (lv' := [(3, (0, 1)), (0, (22, a0)), (1, (0, a1)), (2, (0, a2)), (4, (0, l4))]) rfl ?_
  refine r_iinc (k := 4) (v := l4) dX12_isFree_83 rfl (by decide) (lv' := [(4, (0, w32 (l4 + 1))), (3, (0, 1)), (0, (22, a0)), (1, (0, a1)), (2, (0, a2))]) rfl ?_
  refine r_goto dX12_isFree_86 (tgt := 17) (by decide) ?_
  refine r_lcast 1 (v := (0, 1)) (w := (2, 1)) rfl cz (fun _ => Or.inr rfl) (lv' := [(4, (0, w32 (l4 + 1))), (3, (2, 1)), (0, (22, a0)), (1, (0, a1)), (2, (0, a2))]) rfl ?_
  refine r_sub [2, 3, 4, 1, 0] (lv' := [(0, (22, a0)), (1, (0, a1)), (2, (0, a2)), (3, (2, 1)), (4, (0, w32 (l4 + 1)))]) rfl ?_
  obtain rfl := Option.some.inj hr
  exact k1 _ _ hk
set_option maxRecDepth 100000 in
set_option maxHeartbeats 4000000 in
theorem oX12_isFree_s17 {a0 a1 a2 l3 l4 : Int} {K : (Int × Int) ⊕ (Int) → Prop} (k0 : ∀ r, K (.inr (r)) → x = (some (2, r), h)) (k1 : ∀ (l3 : Int) (l4 : Int), K (.inl (l3, l4)) → Wq p l e R s m args below meth c D G A H0 true n0 M_X12_isFree x 0 0 17 [(0, (22, a0)), (1, (0, a1)), (2, (0, a2)), (3, (2, l3)), (4, (0, l4))] [] h) {r : (Int × Int) ⊕ (Int)} (hr : fX12_isFree_s17 h a0 a1 a2 (l3, l4) = some r) (hk : K r) : Wq p l e R s m args below meth c D G A H0 true n0 M_X12_isFree x 0 0 17 [(0, (22, a0)), (1, (0, a1)), (2, (0, a2)), (3, (2, l3)), (4, (0, l4))] [] h := by
  unfold fX12_isFree_s17 at hr
  refine r_iload dX12_isFree_17 4 rfl (Or.inl rfl) ?_
  refine r_aload_n dX12_isFree_19 rfl 0 rfl (nl rfl) ?_
  refine r_get 12 6 (o := a0) (w := (50, h a0 6)) (T := TX12) (ref := "FollowingRefsModel") rfl (by decide) rfl (by decide) inlX12 (wsl_7 _ (List.mem_of_getElem? (i := 8) rfl)) rfl dX12_isFree_20 rfl ?_
  refine r_iconst dX12_isFree_23 (by decide) ?_
  obtain ⟨v24, hg24, hr⟩ := bnd hr
  refine r_iald dX12_isFree_24 hg24 ?_
  refine r_icmp_ge dX12_isFree_25 (tgt := 89) (by decide) (fun hc => ?_) (fun hc => ?_)
  · have hr := ifn hr hc
    refine r_iload_n dX12_isFree_89 rfl 3 rfl (Or.inr rfl) ?_
    obtain rfl := Option.some.inj hr
    exact r_ret dX12_isFree_90 rfl (Or.inr ⟨rfl, rfl⟩) (k0 _ hk) ⟨rfl, rfl⟩
  · have hr := ifp hr hc
    refine r_iload_n dX12_isFree_28 rfl 3 rfl (Or.inr rfl) ?_
    refine r_scast 0 (v := (2, l3)) (w := (0, l3)) rfl zc hTz (st' := [(0, l3)]) rfl ?_
    refine r_if_eq dX12_isFree_29 (tgt := 81) (by decide) (fun hc => ?_) (fun hc => ?_)
    · have hr := ifp hr hc
      refine r_iconst dX12_isFree_81 (by decide) ?_
      refine r_istore_n dX12_isFree_82 rfl (Or.inl rfl) (by decide) (lv' := [(3, (0, 0)), (0, (22, a0)), (1, (0, a1)), (2, (0, a2)), (4, (0, l4))]) rfl ?_
      refine r_iinc (k := 4) (v := l4) dX12_isFree_83 rfl (by decide) (lv' := [(4, (0, w32 (l4 + 1))), (3, (0, 0)), (0, (22, a0)), (1, (0, a1)), (2, (0, a2))]) rfl ?_
      refine r_goto dX12_isFree_86 (tgt := 17) (by decide) ?_
      refine r_lcast 1 (v := (0, 0)) (w := (2, 0)) rfl cz (fun _ => Or.inl rfl) (lv' := [(4, (0, w32 (l4 + 1))), (3, (2, 0)), (0, (22, a0)), (1, (0, a1)), (2, (0, a2))]) rfl ?_
      refine r_sub [2, 3, 4, 1, 0] (lv' := [(0, (22, a0)), (1, (0, a1)), (2, (0, a2)), (3, (2, 0)), (4, (0, w32 (l4 + 1)))]) rfl ?_
      obtain rfl := Option.some.inj hr
      exact k1 _ _ hk
    · have hr := ifn hr hc
      refine r_aload_n dX12_isFree_32 rfl 0 rfl (nl rfl) ?_
      refine r_get 12 6 (o := a0) (w := (50, h a0 6)) (T := TX12) (ref := "FollowingRefsModel") rfl (by decide) rfl (by decide) inlX12 (wsl_7 _ (List.mem_of_getElem? (i := 8) rfl)) rfl dX12_isFree_33 rfl ?_
      refine r_bipush dX12_isFree_36 (by decide) (by decide) ?_
      refine r_iload dX12_isFree_38 4 rfl (Or.inl rfl) ?_
      refine r_iadd dX12_isFree_40 ?_
      obtain ⟨v41, hg41, hr⟩ := bnd hr
      refine r_iald dX12_isFree_41 hg41 ?_
      refine r_iload_n dX12_isFree_42 rfl 1 rfl (Or.inl rfl) ?_
      refine r_icmp_ne dX12_isFree_43 (tgt := 77) (by decide) (fun hc => ?_) (fun hc => ?_)
      · have hr := ifn hr hc
        refine r_sub [0, 1, 2, 4] (lv' := [(0, (22, a0)), (1, (0, a1)), (2, (0, a2)), (4, (0, l4))]) rfl ?_
        exact oX12_isFree_b77 (K := K) (fun r z => k0 r z) (fun _ _ z => k1 _ _ z) hr hk
      · have hr := ifp hr hc
        refine r_aload_n dX12_isFree_46 rfl 0 rfl (nl rfl) ?_
        refine r_get 12 6 (o := a0) (w := (50, h a0 6)) (T := TX12) (ref := "FollowingRefsModel") rfl (by decide) rfl (by decide) inlX12 (wsl_7 _ (List.mem_of_getElem? (i := 8) rfl)) rfl dX12_isFree_47 rfl ?_
        refine r_bipush dX12_isFree_50 (by decide) (by decide) ?_
        refine r_iload dX12_isFree_52 4 rfl (Or.inl rfl) ?_
        refine r_iadd dX12_isFree_54 ?_
        obtain ⟨v55, hg55, hr⟩ := bnd hr
        refine r_iald dX12_isFree_55 hg55 ?_
        refine r_iload_n dX12_isFree_56 rfl 1 rfl (Or.inl rfl) ?_
        refine r_icmp_eq dX12_isFree_57 (tgt := 77) (by decide) (fun hc => ?_) (fun hc => ?_)
        · have hr := ifp hr hc
          refine r_sub [0, 1, 2, 4] (lv' := [(0, (22, a0)), (1, (0, a1)), (2, (0, a2)), (4, (0, l4))]) rfl ?_
          exact oX12_isFree_b77 (K := K) (fun r z => k0 r z) (fun _ _ z => k1 _ _ z) hr hk
        · have hr := ifn hr hc
          refine r_iload_n dX12_isFree_60 rfl 2 rfl (Or.inl rfl) ?_
          refine r_aload_n dX12_isFree_61 rfl 0 rfl (nl rfl) ?_
          refine r_get 12 6 (o := a0) (w := (50, h a0 6)) (T := TX12) (ref := "FollowingRefsModel") rfl (by decide) rfl (by decide) inlX12 (wsl_7 _ (List.mem_of_getElem? (i := 8) rfl)) rfl dX12_isFree_62 rfl ?_
          refine r_bipush dX12_isFree_65 (by decide) (by decide) ?_
          refine r_iload dX12_isFree_67 4 rfl (Or.inl rfl) ?_
          refine r_iadd dX12_isFree_69 ?_
          obtain ⟨v70, hg70, hr⟩ := bnd hr
          refine r_iald dX12_isFree_70 hg70 ?_
          obtain ⟨r71, hg71, hr⟩ := bnd hr
          refine k_S (as := [(0, a2), (0, v70)]) (rest := []) (X := (some (2, r71), h)) (oX12_bitOf hg71) gX12_bitOf rfl (wsl_58 _ (List.mem_of_getElem? (i := 3) rfl)) rfl dX12_isFree_71 rfl ?_
          refine r_scast 0 (v := (2, r71)) (w := (0, r71)) rfl zc hTz (st' := [(0, r71)]) rfl ?_
          refine r_if_eq dX12_isFree_74 (tgt := 81) (by decide) (fun hc => ?_) (fun hc => ?_)
          · have hr := ifp hr hc
            refine r_iconst dX12_isFree_81 (by decide) ?_
            refine r_istore_n dX12_isFree_82 rfl (Or.inl rfl) (by decide) (lv' := [(3, (0, 0)), (0, (22, a0)), (1, (0, a1)), (2, (0, a2)), (4, (0, l4))]) rfl ?_
            refine r_iinc (k := 4) (v := l4) dX12_isFree_83 rfl (by decide) (lv' := [(4, (0, w32 (l4 + 1))), (3, (0, 0)), (0, (22, a0)), (1, (0, a1)), (2, (0, a2))]) rfl ?_
            refine r_goto dX12_isFree_86 (tgt := 17) (by decide) ?_
            refine r_lcast 1 (v := (0, 0)) (w := (2, 0)) rfl cz (fun _ => Or.inl rfl) (lv' := [(4, (0, w32 (l4 + 1))), (3, (2, 0)), (0, (22, a0)), (1, (0, a1)), (2, (0, a2))]) rfl ?_
            refine r_sub [2, 3, 4, 1, 0] (lv' := [(0, (22, a0)), (1, (0, a1)), (2, (0, a2)), (3, (2, 0)), (4, (0, w32 (l4 + 1)))]) rfl ?_
            obtain rfl := Option.some.inj hr
            exact k1 _ _ hk
          · have hr := ifn hr hc
            refine r_sub [0, 1, 2, 4] (lv' := [(0, (22, a0)), (1, (0, a1)), (2, (0, a2)), (4, (0, l4))]) rfl ?_
            exact oX12_isFree_b77 (K := K) (fun r z => k0 r z) (fun _ _ z => k1 _ _ z) hr hk
set_option maxRecDepth 100000 in
set_option maxHeartbeats 4000000 in
theorem oX12_isFree_b13 {a0 a1 a2 s0 : Int} {K : Int → Prop} (k0 : ∀ r, K (r) → x = (some (2, r), h)) {r : Int} (hr : fX12_isFree_b13 h a0 a1 a2 s0 = some r) (hk : K r) : Wq p l e R s m args below meth c D G A H0 true n0 M_X12_isFree x 0 0 13 [(0, (22, a0)), (1, (0, a1)), (2, (0, a2))] [(2, s0)] h := by
  unfold fX12_isFree_b13 at hr
  refine r_istore_n dX12_isFree_13 rfl (Or.inr rfl) (by decide) (lv' := [(3, (2, s0)), (0, (22, a0)), (1, (0, a1)), (2, (0, a2))]) rfl ?_
  refine r_iconst dX12_isFree_14 (by decide) ?_
  refine r_istore dX12_isFree_15 (Or.inl rfl) (by decide) (lv' := [(4, (0, 0)), (3, (2, s0)), (0, (22, a0)), (1, (0, a1)), (2, (0, a2))]) rfl ?_
  refine r_sub [2, 3, 4, 1, 0] (lv' := [(0, (22, a0)), (1, (0, a1)), (2, (0, a2)), (3, (2, s0)), (4, (0, 0))]) rfl ?_
  exact lp_ok (w := fun (q : Int × Int) => Wq p l e R s m args below meth c D G A H0 true n0 M_X12_isFree x 0 0 17 [(0, (22, a0)), (1, (0, a1)), (2, (0, a2)), (3, (2, q.1)), (4, (0, q.2))] [] (h)) (K := K) (fun ⟨q0, q1⟩ r h1 h2 => oX12_isFree_s17 (K := Sum.elim (fun (q : Int × Int) => Wq p l e R s m args below meth c D G A H0 true n0 M_X12_isFree x 0 0 17 [(0, (22, a0)), (1, (0, a1)), (2, (0, a2)), (3, (2, q.1)), (4, (0, q.2))] [] (h)) (K)) (fun r z => k0 r z) (fun _ _ z => z) h1 h2) hr hk
set_option maxRecDepth 100000 in
set_option maxHeartbeats 4000000 in
theorem oX12_isFree_b0 {a0 a1 a2 : Int} {K : Int → Prop} (k0 : ∀ r, K (r) → x = (some (2, r), h)) {r : Int} (hr : fX12_isFree h a0 a1 a2 = some r) (hk : K r) : Wq p l e R s m args below meth c D G A H0 true n0 M_X12_isFree x 0 0 0 [(0, (22, a0)), (1, (0, a1)), (2, (0, a2))] [] h := by
  unfold fX12_isFree at hr
  refine r_iload_n dX12_isFree_0 rfl 2 rfl (Or.inl rfl) ?_
  refine r_iload_n dX12_isFree_1 rfl 1 rfl (Or.inl rfl) ?_
  obtain ⟨r2, hg2, hr⟩ := bnd hr
  refine k_S (as := [(0, a2), (0, a1)]) (rest := []) (X := (some (2, r2), h)) (oX12_bitOf hg2) gX12_bitOf rfl (wsl_58 _ (List.mem_of_getElem? (i := 3) rfl)) rfl dX12_isFree_2 rfl ?_
  refine r_scast 0 (v := (2, r2)) (w := (0, r2)) rfl zc hTz (st' := [(0, r2)]) rfl ?_
  refine r_if_ne dX12_isFree_5 (tgt := 12) (by decide) (fun hc => ?_) (fun hc => ?_)
  · have hr := ifn hr hc
    refine r_iconst dX12_isFree_12 (by decide) ?_
    refine r_scast 0 (v := (0, 0)) (w := (2, 0)) rfl cz (fun _ => Or.inl rfl) (st' := [(2, 0)]) rfl ?_
    exact oX12_isFree_b13 (K := K) (fun r z => k0 r z) hr hk
  · have hr := ifp hr hc
    refine r_iconst dX12_isFree_8 (by decide) ?_
    refine r_goto dX12_isFree_9 (tgt := 13) (by decide) ?_
    refine r_scast 0 (v := (0, 1)) (w := (2, 1)) rfl cz (fun _ => Or.inr rfl) (st' := [(2, 1)]) rfl ?_
    exact oX12_isFree_b13 (K := K) (fun r z => k0 r z) hr hk
end M_X12_isFree
theorem oX12_isFree {l : Launch} {D : va_G} {G : gG} {h : hH} {a0 a1 a2 : Int} {r : Int} (hr : fX12_isFree h a0 a1 a2 = some r) : Ctr l D G true yX12_isFree M_X12_isFree [(22, a0), (0, a1), (0, a2)] h (some (2, r), h) :=
  Ctr_of (by decide) rfl (fun z => by cases z) (nl rfl) (fun {p e R s m args below meth c A H0} => by
    exact oX12_isFree_b0 (K := fun z9 => z9 = r) (fun r9 z => by rw [z]) hr rfl)
/-! X12_order -/
theorem dX12_order_0 : decode cX12_order 0 = .ok (.aload_n 0, 1) := by decide +kernel
theorem dX12_order_1 : decode cX12_order 1 = .ok (.iconst 0, 1) := by decide +kernel
theorem dX12_order_2 : decode cX12_order 2 = .ok (.putfield 1, 3) := by decide +kernel
theorem dX12_order_5 : decode cX12_order 5 = .ok (.iconst 0, 1) := by decide +kernel
theorem dX12_order_6 : decode cX12_order 6 = .ok (.istore_n 1, 1) := by decide +kernel
theorem dX12_order_7 : decode cX12_order 7 = .ok (.iconst 0, 1) := by decide +kernel
theorem dX12_order_8 : decode cX12_order 8 = .ok (.istore_n 2, 1) := by decide +kernel
theorem dX12_order_9 : decode cX12_order 9 = .ok (.iload_n 2, 1) := by decide +kernel
theorem dX12_order_10 : decode cX12_order 10 = .ok (.aload_n 0, 1) := by decide +kernel
theorem dX12_order_11 : decode cX12_order 11 = .ok (.getfield 33, 3) := by decide +kernel
theorem dX12_order_14 : decode cX12_order 14 = .ok (.iconst 0, 1) := by decide +kernel
theorem dX12_order_15 : decode cX12_order 15 = .ok (.iaload, 1) := by decide +kernel
theorem dX12_order_16 : decode cX12_order 16 = .ok (.if_icmp .ge 61, 3) := by decide +kernel
theorem dX12_order_19 : decode cX12_order 19 = .ok (.iconst 0, 1) := by decide +kernel
theorem dX12_order_20 : decode cX12_order 20 = .ok (.istore_n 3, 1) := by decide +kernel
theorem dX12_order_21 : decode cX12_order 21 = .ok (.iload_n 3, 1) := by decide +kernel
theorem dX12_order_22 : decode cX12_order 22 = .ok (.aload_n 0, 1) := by decide +kernel
theorem dX12_order_23 : decode cX12_order 23 = .ok (.getfield 33, 3) := by decide +kernel
theorem dX12_order_26 : decode cX12_order 26 = .ok (.iconst 0, 1) := by decide +kernel
theorem dX12_order_27 : decode cX12_order 27 = .ok (.iaload, 1) := by decide +kernel
theorem dX12_order_28 : decode cX12_order 28 = .ok (.if_icmp .ge 18, 3) := by decide +kernel
theorem dX12_order_31 : decode cX12_order 31 = .ok (.aload_n 0, 1) := by decide +kernel
theorem dX12_order_32 : decode cX12_order 32 = .ok (.iload_n 3, 1) := by decide +kernel
theorem dX12_order_33 : decode cX12_order 33 = .ok (.iload_n 1, 1) := by decide +kernel
theorem dX12_order_34 : decode cX12_order 34 = .ok (.invokevirtual 508, 3) := by decide +kernel
theorem dX12_order_37 : decode cX12_order 37 = .ok (.ifCond .ne 9, 3) := by decide +kernel
theorem dX12_order_40 : decode cX12_order 40 = .ok (.iinc 3 1, 3) := by decide +kernel
theorem dX12_order_43 : decode cX12_order 43 = .ok (.goto (-22), 3) := by decide +kernel
theorem dX12_order_46 : decode cX12_order 46 = .ok (.iload_n 3, 1) := by decide +kernel
theorem dX12_order_47 : decode cX12_order 47 = .ok (.aload_n 0, 1) := by decide +kernel
theorem dX12_order_48 : decode cX12_order 48 = .ok (.getfield 33, 3) := by decide +kernel
theorem dX12_order_51 : decode cX12_order 51 = .ok (.iconst 0, 1) := by decide +kernel
theorem dX12_order_52 : decode cX12_order 52 = .ok (.iaload, 1) := by decide +kernel
theorem dX12_order_53 : decode cX12_order 53 = .ok (.if_icmp .ne 5, 3) := by decide +kernel
theorem dX12_order_56 : decode cX12_order 56 = .ok (.iconst (-1), 1) := by decide +kernel
theorem dX12_order_57 : decode cX12_order 57 = .ok (.ireturn, 1) := by decide +kernel
theorem dX12_order_58 : decode cX12_order 58 = .ok (.aload_n 0, 1) := by decide +kernel
theorem dX12_order_59 : decode cX12_order 59 = .ok (.getfield 98, 3) := by decide +kernel
theorem dX12_order_62 : decode cX12_order 62 = .ok (.iload_n 2, 1) := by decide +kernel
theorem dX12_order_63 : decode cX12_order 63 = .ok (.iload_n 3, 1) := by decide +kernel
theorem dX12_order_64 : decode cX12_order 64 = .ok (.iastore, 1) := by decide +kernel
theorem dX12_order_65 : decode cX12_order 65 = .ok (.iload_n 1, 1) := by decide +kernel
theorem dX12_order_66 : decode cX12_order 66 = .ok (.iconst 1, 1) := by decide +kernel
theorem dX12_order_67 : decode cX12_order 67 = .ok (.iload_n 3, 1) := by decide +kernel
theorem dX12_order_68 : decode cX12_order 68 = .ok (.ishl, 1) := by decide +kernel
theorem dX12_order_69 : decode cX12_order 69 = .ok (.ior, 1) := by decide +kernel
theorem dX12_order_70 : decode cX12_order 70 = .ok (.istore_n 1, 1) := by decide +kernel
theorem dX12_order_71 : decode cX12_order 71 = .ok (.iinc 2 1, 3) := by decide +kernel
theorem dX12_order_74 : decode cX12_order 74 = .ok (.goto (-65), 3) := by decide +kernel
theorem dX12_order_77 : decode cX12_order 77 = .ok (.aload_n 0, 1) := by decide +kernel
theorem dX12_order_78 : decode cX12_order 78 = .ok (.aload_n 0, 1) := by decide +kernel
theorem dX12_order_79 : decode cX12_order 79 = .ok (.getfield 33, 3) := by decide +kernel
theorem dX12_order_82 : decode cX12_order 82 = .ok (.iconst 0, 1) := by decide +kernel
theorem dX12_order_83 : decode cX12_order 83 = .ok (.iaload, 1) := by decide +kernel
theorem dX12_order_84 : decode cX12_order 84 = .ok (.putfield 101, 3) := by decide +kernel
theorem dX12_order_87 : decode cX12_order 87 = .ok (.iconst 0, 1) := by decide +kernel
theorem dX12_order_88 : decode cX12_order 88 = .ok (.istore_n 2, 1) := by decide +kernel
theorem dX12_order_89 : decode cX12_order 89 = .ok (.iload_n 2, 1) := by decide +kernel
theorem dX12_order_90 : decode cX12_order 90 = .ok (.iconst 4, 1) := by decide +kernel
theorem dX12_order_91 : decode cX12_order 91 = .ok (.if_icmp .ge 21, 3) := by decide +kernel
theorem dX12_order_94 : decode cX12_order 94 = .ok (.aload_n 0, 1) := by decide +kernel
theorem dX12_order_95 : decode cX12_order 95 = .ok (.getfield 95, 3) := by decide +kernel
theorem dX12_order_98 : decode cX12_order 98 = .ok (.iload_n 2, 1) := by decide +kernel
theorem dX12_order_99 : decode cX12_order 99 = .ok (.aload_n 0, 1) := by decide +kernel
theorem dX12_order_100 : decode cX12_order 100 = .ok (.getfield 98, 3) := by decide +kernel
theorem dX12_order_103 : decode cX12_order 103 = .ok (.iload_n 2, 1) := by decide +kernel
theorem dX12_order_104 : decode cX12_order 104 = .ok (.iaload, 1) := by decide +kernel
theorem dX12_order_105 : decode cX12_order 105 = .ok (.iastore, 1) := by decide +kernel
theorem dX12_order_106 : decode cX12_order 106 = .ok (.iinc 2 1, 3) := by decide +kernel
theorem dX12_order_109 : decode cX12_order 109 = .ok (.goto (-20), 3) := by decide +kernel
theorem dX12_order_112 : decode cX12_order 112 = .ok (.aload_n 0, 1) := by decide +kernel
theorem dX12_order_113 : decode cX12_order 113 = .ok (.getfield 101, 3) := by decide +kernel
theorem dX12_order_116 : decode cX12_order 116 = .ok (.ireturn, 1) := by decide +kernel
abbrev M_X12_order : mM := (cX12_order, 4, RX12, some .int, false, 2, 45, 0, 0)
theorem gX12_order : cI yX12_order M_X12_order 0 := ⟨(wsl_60 _ (List.mem_of_getElem? (i := 1) rfl)), (wsl_60 _ (List.mem_of_getElem? (i := 2) rfl)), (wsl_1 _ (List.mem_of_getElem? (i := 5) rfl)), (wsl_60 _ (List.mem_of_getElem? (i := 3) rfl)), by decide +kernel⟩
noncomputable def fX12_order_b46 (h : hH) (a0 l1 l2 l3 : Int) : Option ((hH × Int × Int) ⊕ (Int × hH)) :=
  (aget h (h a0 6) 0).bind fun v52 =>
  if l3 = v52 then
    some (.inr ((-1, h)))
  else
    (aput h (h a0 47) l2 l3).bind fun h64 =>
    some (.inl (h64, iorD l1 (ishD 1 l3), w32 (l2 + 1)))
noncomputable def fX12_order_s21 (h : hH) (a0 l1 l2 : Int) : Int → Option ((Int) ⊕ ((hH × Int × Int) ⊕ (Int × hH))) := fun l3 =>
  (aget h (h a0 6) 0).bind fun v27 =>
  if l3 < v27 then
    (fX12_isFree h a0 l3 l1).bind fun r34 =>
    if r34 = 0 then
      some (.inl (w32 (l3 + 1)))
    else
      (fX12_order_b46 h a0 l1 l2 l3).map (fun z9 => .inr (z9))
  else
    (fX12_order_b46 h a0 l1 l2 l3).map (fun z9 => .inr (z9))
noncomputable def fX12_order_s89 (h0 : hH) (a0 : Int) : hH × Int → Option ((hH × Int) ⊕ (Int × hH)) := fun (h, l2) =>
  if l2 < 4 then
    (aget h (h a0 47) l2).bind fun v104 =>
    (aput h (h a0 46) l2 v104).bind fun h105 =>
    some (.inl (h105, w32 (l2 + 1)))
  else
    some (.inr ((h a0 48, h)))
noncomputable def fX12_order_s9 (h0 : hH) (a0 : Int) : hH × Int × Int → Option ((hH × Int × Int) ⊕ (Int × hH)) := fun (h, l1, l2) =>
  (aget h (h a0 6) 0).bind fun v15 =>
  if l2 < v15 then
    lpO (fX12_order_s21 h a0 l1 l2) 0
  else
    (aget h (h a0 6) 0).bind fun v83 =>
    (pput h a0 48 v83).bind fun h84 =>
    (lpO (fX12_order_s89 h84 a0) (h84, 0)).map (fun z9 => .inr (z9))
noncomputable def fX12_order (h : hH) (a0 : Int) : Option (Int × hH) :=
  (pput h a0 0 0).bind fun h2 =>
  lpO (fX12_order_s9 h2 a0) (h2, 0, 0)
section M_X12_order
variable {p : Program} {l : Launch} {e : Env} {R : Room} {s : State} {m : MethodId} {args : Array Value} {below : List Frame} {meth : Method} {c : Code} {D : va_G} {G : gG} {A : Nat → Prop} {H0 : Heap} {n0 : Int} {x : Option vV × hH} {h : hH}
set_option maxRecDepth 100000 in
set_option maxHeartbeats 4000000 in
theorem oX12_order_b46 {a0 l1 l2 l3 : Int} {K : (hH × Int × Int) ⊕ (Int × hH) → Prop} (k0 : ∀ r, K (.inr (r)) → x = (some (0, r.1), r.2)) (k1 : ∀ (h : hH) (l1 : Int) (l2 : Int), K (.inl (h, l1, l2)) → Wq p l e R s m args below meth c D G A H0 true n0 M_X12_order x 0 0 9 [(0, (22, a0)), (1, (0, l1)), (2, (0, l2))] [] h) {r : (hH × Int × Int) ⊕ (Int × hH)} (hr : fX12_order_b46 h a0 l1 l2 l3 = some r) (hk : K r) : Wq p l e R s m args below meth c D G A H0 true n0 M_X12_order x 0 0 46 [(0, (22, a0)), (1, (0, l1)), (2, (0, l2)), (3, (0, l3))] [] h := by
  unfold fX12_order_b46 at hr
  refine r_iload_n dX12_order_46 rfl 3 rfl (Or.inl rfl) ?_
  refine r_aload_n dX12_order_47 rfl 0 rfl (nl rfl) ?_
  refine r_get 12 6 (o := a0) (w := (50, h a0 6)) (T := TX12) (ref := "FollowingRefsModel") rfl (by decide) rfl (by decide) inlX12 (wsl_7 _ (List.mem_of_getElem? (i := 8) rfl)) rfl dX12_order_48 rfl ?_
  refine r_iconst dX12_order_51 (by decide) ?_
  obtain ⟨v52, hg52, hr⟩ := bnd hr
  refine r_iald dX12_order_52 hg52 ?_
  refine r_icmp_ne dX12_order_53 (tgt := 58) (by decide) (fun hc => ?_) (fun hc => ?_)
  · have hr := ifn hr hc
    refine r_aload_n dX12_order_58 rfl 0 rfl (nl rfl) ?_
    refine r_get 12 47 (o := a0) (w := (50, h a0 47)) (T := TX12) (ref := "FollowingRefsModel") rfl (by decide) rfl (by decide) inlX12 (wsl_8 _ (List.mem_of_getElem? (i := 5) rfl)) rfl dX12_order_59 rfl ?_
    refine r_iload_n dX12_order_62 rfl 2 rfl (Or.inl rfl) ?_
    refine r_iload_n dX12_order_63 rfl 3 rfl (Or.inl rfl) ?_
    obtain ⟨h64, hg64, hr⟩ := bnd hr
    refine r_iast dX12_order_64 hg64 ?_
    refine r_iload_n dX12_order_65 rfl 1 rfl (Or.inl rfl) ?_
    refine r_iconst dX12_order_66 (by decide) ?_
    refine r_iload_n dX12_order_67 rfl 3 rfl (Or.inl rfl) ?_
    refine r_ishl dX12_order_68 ?_
    refine r_ior dX12_order_69 ?_
    refine r_istore_n dX12_order_70 rfl (Or.inl rfl) (by decide) (lv' := [(1, (0, iorD l1 (ishD 1 l3))), (0, (22, a0)), (2, (0, l2)), (3, (0, l3))]) rfl ?_
    refine r_iinc (k := 2) (v := l2) dX12_order_71 rfl (by decide) (lv' := [(2, (0, w32 (l2 + 1))), (1, (0, iorD l1 (ishD 1 l3))), (0, (22, a0)), (3, (0, l3))]) rfl ?_
    refine r_goto dX12_order_74 (tgt := 9) (by decide) ?_
    refine r_sub [2, 1, 0] (lv' := [(0, (22, a0)), (1, (0, iorD l1 (ishD 1 l3))), (2, (0, w32 (l2 + 1)))]) rfl ?_
    obtain rfl := Option.some.inj hr
    exact k1 _ _ _ hk
  · have hr := ifp hr hc
    refine r_iconst dX12_order_56 (by decide) ?_
    obtain rfl := Option.some.inj hr
    exact r_ret dX12_order_57 rfl (Or.inl ⟨rfl, rfl⟩) (k0 _ hk) ⟨rfl, rfl⟩
set_option maxRecDepth 100000 in
set_option maxHeartbeats 4000000 in
theorem oX12_order_s21 {a0 l1 l2 l3 : Int} {K : (Int) ⊕ ((hH × Int × Int) ⊕ (Int × hH)) → Prop} (k0 : ∀ r, K (.inr (.inr (r))) → x = (some (0, r.1), r.2)) (k1 : ∀ (h : hH) (l1 : Int) (l2 : Int), K (.inr (.inl (h, l1, l2))) → Wq p l e R s m args below meth c D G A H0 true n0 M_X12_order x 0 0 9 [(0, (22, a0)), (1, (0, l1)), (2, (0, l2))] [] h) (k2 : ∀ (l3 : Int), K (.inl l3) → Wq p l e R s m args below meth c D G A H0 true n0 M_X12_order x 0 0 21 [(0, (22, a0)), (1, (0, l1)), (2, (0, l2)), (3, (0, l3))] [] h) {r : (Int) ⊕ ((hH × Int × Int) ⊕ (Int × hH))} (hr : fX12_order_s21 h a0 l1 l2 l3 = some r) (hk : K r) : Wq p l e R s m args below meth c D G A H0 true n0 M_X12_order x 0 0 21 [(0, (22, a0)), (1, (0, l1)), (2, (0, l2)), (3, (0, l3))] [] h := by
  unfold fX12_order_s21 at hr
  refine r_iload_n dX12_order_21 rfl 3 rfl (Or.inl rfl) ?_
  refine r_aload_n dX12_order_22 rfl 0 rfl (nl rfl) ?_
  refine r_get 12 6 (o := a0) (w := (50, h a0 6)) (T := TX12) (ref := "FollowingRefsModel") rfl (by decide) rfl (by decide) inlX12 (wsl_7 _ (List.mem_of_getElem? (i := 8) rfl)) rfl dX12_order_23 rfl ?_
  refine r_iconst dX12_order_26 (by decide) ?_
  obtain ⟨v27, hg27, hr⟩ := bnd hr
  refine r_iald dX12_order_27 hg27 ?_
  refine r_icmp_ge dX12_order_28 (tgt := 46) (by decide) (fun hc => ?_) (fun hc => ?_)
  · have hr := ifn hr hc
    obtain ⟨r9, hr9, rfl⟩ := mpp hr
    exact oX12_order_b46 (K := fun z9 => K (.inr (z9))) (fun r z => k0 r z) (fun _ _ _ z => k1 _ _ _ z) hr9 hk
  · have hr := ifp hr hc
    refine r_aload_n dX12_order_31 rfl 0 rfl (nl rfl) ?_
    refine r_iload_n dX12_order_32 rfl 3 rfl (Or.inl rfl) ?_
    refine r_iload_n dX12_order_33 rfl 1 rfl (Or.inl rfl) ?_
    obtain ⟨r34, hg34, hr⟩ := bnd hr
    refine k_V (ci := 12) (o := a0) (T := TX12) (as := [(0, l3), (0, l1)]) (rest := []) (X := (some (2, r34), h)) (oX12_isFree hg34) gX12_isFree rfl (by decide) rfl (wsl_60 _ (List.mem_of_getElem? (i := 4) rfl)) rfl dX12_order_34 rfl ?_
    refine r_scast 0 (v := (2, r34)) (w := (0, r34)) rfl zc hTz (st' := [(0, r34)]) rfl ?_
    refine r_if_ne dX12_order_37 (tgt := 46) (by decide) (fun hc => ?_) (fun hc => ?_)
    · have hr := ifn hr hc
      obtain ⟨r9, hr9, rfl⟩ := mpp hr
      exact oX12_order_b46 (K := fun z9 => K (.inr (z9))) (fun r z => k0 r z) (fun _ _ _ z => k1 _ _ _ z) hr9 hk
    · have hr := ifp hr hc
      refine r_iinc (k := 3) (v := l3) dX12_order_40 rfl (by decide) (lv' := [(3, (0, w32 (l3 + 1))), (0, (22, a0)), (1, (0, l1)), (2, (0, l2))]) rfl ?_
      refine r_goto dX12_order_43 (tgt := 21) (by decide) ?_
      refine r_sub [1, 2, 3, 0] (lv' := [(0, (22, a0)), (1, (0, l1)), (2, (0, l2)), (3, (0, w32 (l3 + 1)))]) rfl ?_
      obtain rfl := Option.some.inj hr
      exact k2 _ hk
set_option maxRecDepth 100000 in
set_option maxHeartbeats 4000000 in
theorem oX12_order_s89 {h0 : hH} {a0 l2 : Int} {K : (hH × Int) ⊕ (Int × hH) → Prop} (k0 : ∀ r, K (.inr (r)) → x = (some (0, r.1), r.2)) (k1 : ∀ (h : hH) (l2 : Int), K (.inl (h, l2)) → Wq p l e R s m args below meth c D G A H0 true n0 M_X12_order x 0 0 89 [(0, (22, a0)), (2, (0, l2))] [] h) {r : (hH × Int) ⊕ (Int × hH)} (hr : fX12_order_s89 h0 a0 (h, l2) = some r) (hk : K r) : Wq p l e R s m args below meth c D G A H0 true n0 M_X12_order x 0 0 89 [(0, (22, a0)), (2, (0, l2))] [] h := by
  unfold fX12_order_s89 at hr
  refine r_iload_n dX12_order_89 rfl 1 rfl (Or.inl rfl) ?_
  refine r_iconst dX12_order_90 (by decide) ?_
  refine r_icmp_ge dX12_order_91 (tgt := 112) (by decide) (fun hc => ?_) (fun hc => ?_)
  · have hr := ifn hr hc
    refine r_aload_n dX12_order_112 rfl 0 rfl (nl rfl) ?_
    refine r_get 12 48 (o := a0) (w := (0, h a0 48)) (T := TX12) (ref := "FollowingRefsModel") rfl (by decide) rfl (by decide) inlX12 (wsl_8 _ (List.mem_of_getElem? (i := 6) rfl)) rfl dX12_order_113 rfl ?_
    obtain rfl := Option.some.inj hr
    exact r_ret dX12_order_116 rfl (Or.inl ⟨rfl, rfl⟩) (k0 _ hk) ⟨rfl, rfl⟩
  · have hr := ifp hr hc
    refine r_aload_n dX12_order_94 rfl 0 rfl (nl rfl) ?_
    refine r_get 12 46 (o := a0) (w := (50, h a0 46)) (T := TX12) (ref := "FollowingRefsModel") rfl (by decide) rfl (by decide) inlX12 (wsl_8 _ (List.mem_of_getElem? (i := 4) rfl)) rfl dX12_order_95 rfl ?_
    refine r_iload_n dX12_order_98 rfl 1 rfl (Or.inl rfl) ?_
    refine r_aload_n dX12_order_99 rfl 0 rfl (nl rfl) ?_
    refine r_get 12 47 (o := a0) (w := (50, h a0 47)) (T := TX12) (ref := "FollowingRefsModel") rfl (by decide) rfl (by decide) inlX12 (wsl_8 _ (List.mem_of_getElem? (i := 5) rfl)) rfl dX12_order_100 rfl ?_
    refine r_iload_n dX12_order_103 rfl 1 rfl (Or.inl rfl) ?_
    obtain ⟨v104, hg104, hr⟩ := bnd hr
    refine r_iald dX12_order_104 hg104 ?_
    obtain ⟨h105, hg105, hr⟩ := bnd hr
    refine r_iast dX12_order_105 hg105 ?_
    refine r_iinc (k := 1) (v := l2) dX12_order_106 rfl (by decide) (lv' := [(2, (0, w32 (l2 + 1))), (0, (22, a0))]) rfl ?_
    refine r_goto dX12_order_109 (tgt := 89) (by decide) ?_
    refine r_sub [1, 0] (lv' := [(0, (22, a0)), (2, (0, w32 (l2 + 1)))]) rfl ?_
    obtain rfl := Option.some.inj hr
    exact k1 _ _ hk
set_option maxRecDepth 100000 in
set_option maxHeartbeats 4000000 in
theorem oX12_order_s9 {h0 : hH} {a0 l1 l2 : Int} {K : (hH × Int × Int) ⊕ (Int × hH) → Prop} (k0 : ∀ r, K (.inr (r)) → x = (some (0, r.1), r.2)) (k1 : ∀ (h : hH) (l1 : Int) (l2 : Int), K (.inl (h, l1, l2)) → Wq p l e R s m args below meth c D G A H0 true n0 M_X12_order x 0 0 9 [(0, (22, a0)), (1, (0, l1)), (2, (0, l2))] [] h) {r : (hH × Int × Int) ⊕ (Int × hH)} (hr : fX12_order_s9 h0 a0 (h, l1, l2) = some r) (hk : K r) : Wq p l e R s m args below meth c D G A H0 true n0 M_X12_order x 0 0 9 [(0, (22, a0)), (1, (0, l1)), (2, (0, l2))] [] h := by
  unfold fX12_order_s9 at hr
  refine r_iload_n dX12_order_9 rfl 2 rfl (Or.inl rfl) ?_
  refine r_aload_n dX12_order_10 rfl 0 rfl (nl rfl) ?_
  refine r_get 12 6 (o := a0) (w := (50, h a0 6)) (T := TX12) (ref := "FollowingRefsModel") rfl (by decide) rfl (by decide) inlX12 (wsl_7 _ (List.mem_of_getElem? (i := 8) rfl)) rfl dX12_order_11 rfl ?_
  refine r_iconst dX12_order_14 (by decide) ?_
  obtain ⟨v15, hg15, hr⟩ := bnd hr
  refine r_iald dX12_order_15 hg15 ?_
  refine r_icmp_ge dX12_order_16 (tgt := 77) (by decide) (fun hc => ?_) (fun hc => ?_)
  · have hr := ifn hr hc
    refine r_aload_n dX12_order_77 rfl 0 rfl (nl rfl) ?_
    refine r_aload_n dX12_order_78 rfl 0 rfl (nl rfl) ?_
    refine r_get 12 6 (o := a0) (w := (50, h a0 6)) (T := TX12) (ref := "FollowingRefsModel") rfl (by decide) rfl (by decide) inlX12 (wsl_7 _ (List.mem_of_getElem? (i := 8) rfl)) rfl dX12_order_79 rfl ?_
    refine r_iconst dX12_order_82 (by decide) ?_
    obtain ⟨v83, hg83, hr⟩ := bnd hr
    refine r_iald dX12_order_83 hg83 ?_
    obtain ⟨h84, hg84, hr⟩ := bnd hr
    refine r_put' 12 48 (t := 0) (ref := "FollowingRefsModel") hg84 rfl tyX12 tyX12_ok nmX12 rfl (by decide) rfl (by decide) inlX12 (wsl_8 _ (List.mem_of_getElem? (i := 6) rfl)) rfl rfl (by decide +kernel) (by decide) rfl (Or.inl ⟨rfl, rfl⟩) dX12_order_84 ?_
    refine r_iconst dX12_order_87 (by decide) ?_
    refine r_istore_n dX12_order_88 rfl (Or.inl rfl) (by decide) (lv' := [(2, (0, 0)), (0, (22, a0)), (1, (0, l1))]) rfl ?_
    refine r_sub [1, 0] (lv' := [(0, (22, a0)), (2, (0, 0))]) rfl ?_
    obtain ⟨r9, hr9, rfl⟩ := mpp hr
    exact lp_ok (w := fun (q : hH × Int) => Wq p l e R s m args below meth c D G A H0 true n0 M_X12_order x 0 0 89 [(0, (22, a0)), (2, (0, q.2))] [] (q.1)) (K := fun z9 => K (.inr (z9))) (fun ⟨q0, q1⟩ r h1 h2 => oX12_order_s89 (K := Sum.elim (fun (q : hH × Int) => Wq p l e R s m args below meth c D G A H0 true n0 M_X12_order x 0 0 89 [(0, (22, a0)), (2, (0, q.2))] [] (q.1)) (fun z9 => K (.inr (z9)))) (fun r z => k0 r z) (fun _ _ z => z) h1 h2) hr9 hk
  · have hr := ifp hr hc
    refine r_iconst dX12_order_19 (by decide) ?_
    refine r_istore_n dX12_order_20 rfl (Or.inl rfl) (by decide) (lv' := [(3, (0, 0)), (0, (22, a0)), (1, (0, l1)), (2, (0, l2))]) rfl ?_
    refine r_sub [1, 2, 3, 0] (lv' := [(0, (22, a0)), (1, (0, l1)), (2, (0, l2)), (3, (0, 0))]) rfl ?_
    exact lp_ok (w := fun (q : Int) => Wq p l e R s m args below meth c D G A H0 true n0 M_X12_order x 0 0 21 [(0, (22, a0)), (1, (0, l1)), (2, (0, l2)), (3, (0, q))] [] (h)) (K := K) (fun q r h1 h2 => oX12_order_s21 (K := Sum.elim (fun (q : Int) => Wq p l e R s m args below meth c D G A H0 true n0 M_X12_order x 0 0 21 [(0, (22, a0)), (1, (0, l1)), (2, (0, l2)), (3, (0, q))] [] (h)) (K)) (fun r z => k0 r z) (fun _ _ _ z => k1 _ _ _ z) (fun _ z => z) h1 h2) hr hk
set_option maxRecDepth 100000 in
set_option maxHeartbeats 4000000 in
theorem oX12_order_b0 {a0 : Int} {K : Int × hH → Prop} (k0 : ∀ r, K (r) → x = (some (0, r.1), r.2)) {r : Int × hH} (hr : fX12_order h a0 = some r) (hk : K r) : Wq p l e R s m args below meth c D G A H0 true n0 M_X12_order x 0 0 0 [(0, (22, a0))] [] h := by
  unfold fX12_order at hr
  refine r_aload_n dX12_order_0 rfl 0 rfl (nl rfl) ?_
  refine r_iconst dX12_order_1 (by decide) ?_
  obtain ⟨h2, hg2, hr⟩ := bnd hr
  refine r_put' 12 0 (t := 0) (ref := "FollowingRefsModel") hg2 rfl tyX12 tyX12_ok nmX12 rfl (by decide) rfl (by decide) inlX12 (wsl_10 _ (List.mem_of_getElem? (i := 11) rfl)) rfl rfl (by decide +kernel) (by decide) rfl (Or.inl ⟨rfl, rfl⟩) dX12_order_2 ?_
  refine r_iconst dX12_order_5 (by decide) ?_
  refine r_istore_n dX12_order_6 rfl (Or.inl rfl) (by decide) (lv' := [(1, (0, 0)), (0, (22, a0))]) rfl ?_
  refine r_iconst dX12_order_7 (by decide) ?_
  refine r_istore_n dX12_order_8 rfl (Or.inl rfl) (by decide) (lv' := [(2, (0, 0)), (1, (0, 0)), (0, (22, a0))]) rfl ?_
  refine r_sub [2, 1, 0] (lv' := [(0, (22, a0)), (1, (0, 0)), (2, (0, 0))]) rfl ?_
  exact lp_ok (w := fun (q : hH × Int × Int) => Wq p l e R s m args below meth c D G A H0 true n0 M_X12_order x 0 0 9 [(0, (22, a0)), (1, (0, q.2.1)), (2, (0, q.2.2))] [] (q.1)) (K := K) (fun ⟨q0, q1, q2⟩ r z1 z2 => oX12_order_s9 (K := Sum.elim (fun (q : hH × Int × Int) => Wq p l e R s m args below meth c D G A H0 true n0 M_X12_order x 0 0 9 [(0, (22, a0)), (1, (0, q.2.1)), (2, (0, q.2.2))] [] (q.1)) (K)) (fun r z => k0 r z) (fun _ _ _ z => z) z1 z2) hr hk
end M_X12_order
theorem oX12_order {l : Launch} {D : va_G} {G : gG} {h : hH} {a0 : Int} {r : Int × hH} (hr : fX12_order h a0 = some r) : Ctr l D G true yX12_order M_X12_order [(22, a0)] h (some (0, r.1), r.2) :=
  Ctr_of (by decide) rfl (fun z => by cases z) (nl rfl) (fun {p e R s m args below meth c A H0} => by
    exact oX12_order_b0 (K := fun z9 => z9 = r) (fun r9 z => by rw [z]) hr rfl)
/-! X12_orderAt -/
theorem dX12_orderAt_0 : decode cX12_orderAt 0 = .ok (.aload_n 0, 1) := by decide +kernel
theorem dX12_orderAt_1 : decode cX12_orderAt 1 = .ok (.iconst 0, 1) := by decide +kernel
theorem dX12_orderAt_2 : decode cX12_orderAt 2 = .ok (.putfield 1, 3) := by decide +kernel
theorem dX12_orderAt_5 : decode cX12_orderAt 5 = .ok (.iload_n 1, 1) := by decide +kernel
theorem dX12_orderAt_6 : decode cX12_orderAt 6 = .ok (.iconst 0, 1) := by decide +kernel
theorem dX12_orderAt_7 : decode cX12_orderAt 7 = .ok (.aload_n 0, 1) := by decide +kernel
theorem dX12_orderAt_8 : decode cX12_orderAt 8 = .ok (.getfield 101, 3) := by decide +kernel
theorem dX12_orderAt_11 : decode cX12_orderAt 11 = .ok (.iconst 1, 1) := by decide +kernel
theorem dX12_orderAt_12 : decode cX12_orderAt 12 = .ok (.isub, 1) := by decide +kernel
theorem dX12_orderAt_13 : decode cX12_orderAt 13 = .ok (.invokestatic 229, 3) := by decide +kernel
theorem dX12_orderAt_16 : decode cX12_orderAt 16 = .ok (.ifCond .eq 12, 3) := by decide +kernel
theorem dX12_orderAt_19 : decode cX12_orderAt 19 = .ok (.aload_n 0, 1) := by decide +kernel
theorem dX12_orderAt_20 : decode cX12_orderAt 20 = .ok (.getfield 95, 3) := by decide +kernel
theorem dX12_orderAt_23 : decode cX12_orderAt 23 = .ok (.iload_n 1, 1) := by decide +kernel
theorem dX12_orderAt_24 : decode cX12_orderAt 24 = .ok (.iaload, 1) := by decide +kernel
theorem dX12_orderAt_25 : decode cX12_orderAt 25 = .ok (.goto 4, 3) := by decide +kernel
theorem dX12_orderAt_28 : decode cX12_orderAt 28 = .ok (.iconst (-1), 1) := by decide +kernel
theorem dX12_orderAt_29 : decode cX12_orderAt 29 = .ok (.ireturn, 1) := by decide +kernel
abbrev M_X12_orderAt : mM := (cX12_orderAt, 2, RX12, some .int, false, 1, 22, 0, 0)
theorem gX12_orderAt : cI yX12_orderAt M_X12_orderAt 1 := ⟨(wsl_60 _ (List.mem_of_getElem? (i := 13) rfl)), (wsl_60 _ (List.mem_of_getElem? (i := 14) rfl)), (wsl_1 _ (List.mem_of_getElem? (i := 5) rfl)), (wsl_60 _ (List.mem_of_getElem? (i := 15) rfl)), by decide +kernel⟩
noncomputable def fX12_orderAt (h : hH) (a0 a1 : Int) : Option (Int × hH) :=
  (pput h a0 0 0).bind fun h2 =>
  (fX12_isIn h2 a1 0 (w32 ((h2 a0 48) - 1))).bind fun r13 =>
  if r13 = 0 then
    some (-1, h2)
  else
    (aget h2 (h2 a0 46) a1).bind fun v24 =>
    some (v24, h2)
section M_X12_orderAt
variable {p : Program} {l : Launch} {e : Env} {R : Room} {s : State} {m : MethodId} {args : Array Value} {below : List Frame} {meth : Method} {c : Code} {D : va_G} {G : gG} {A : Nat → Prop} {H0 : Heap} {n0 : Int} {x : Option vV × hH} {h : hH}
set_option maxRecDepth 100000 in
set_option maxHeartbeats 4000000 in
theorem oX12_orderAt_b0 {a0 a1 : Int} {K : Int × hH → Prop} (k0 : ∀ r, K (r) → x = (some (0, r.1), r.2)) {r : Int × hH} (hr : fX12_orderAt h a0 a1 = some r) (hk : K r) : Wq p l e R s m args below meth c D G A H0 true n0 M_X12_orderAt x 0 0 0 [(0, (22, a0)), (1, (0, a1))] [] h := by
  unfold fX12_orderAt at hr
  refine r_aload_n dX12_orderAt_0 rfl 0 rfl (nl rfl) ?_
  refine r_iconst dX12_orderAt_1 (by decide) ?_
  obtain ⟨h2, hg2, hr⟩ := bnd hr
  refine r_put' 12 0 (t := 0) (ref := "FollowingRefsModel") hg2 rfl tyX12 tyX12_ok nmX12 rfl (by decide) rfl (by decide) inlX12 (wsl_10 _ (List.mem_of_getElem? (i := 11) rfl)) rfl rfl (by decide +kernel) (by decide) rfl (Or.inl ⟨rfl, rfl⟩) dX12_orderAt_2 ?_
  refine r_iload_n dX12_orderAt_5 rfl 1 rfl (Or.inl rfl) ?_
  refine r_iconst dX12_orderAt_6 (by decide) ?_
  refine r_aload_n dX12_orderAt_7 rfl 0 rfl (nl rfl) ?_
  refine r_get 12 48 (o := a0) (w := (0, h2 a0 48)) (T := TX12) (ref := "FollowingRefsModel") rfl (by decide) rfl (by decide) inlX12 (wsl_8 _ (List.mem_of_getElem? (i := 6) rfl)) rfl dX12_orderAt_8 rfl ?_
  refine r_iconst dX12_orderAt_11 (by decide) ?_
  refine r_isub dX12_orderAt_12 ?_
  obtain ⟨r13, hg13, hr⟩ := bnd hr
  refine k_S (as := [(0, a1), (0, 0), (0, w32 ((h2 a0 48) - 1))]) (rest := []) (X := (some (2, r13), h2)) (oX12_isIn hg13) gX12_isIn rfl (wsl_28 _ (List.mem_of_getElem? (i := 1) rfl)) rfl dX12_orderAt_13 rfl ?_
  refine r_scast 0 (v := (2, r13)) (w := (0, r13)) rfl zc hTz (st' := [(0, r13)]) rfl ?_
  refine r_if_eq dX12_orderAt_16 (tgt := 28) (by decide) (fun hc => ?_) (fun hc => ?_)
  · have hr := ifp hr hc
    refine r_iconst dX12_orderAt_28 (by decide) ?_
    obtain rfl := Option.some.inj hr
    exact r_ret dX12_orderAt_29 rfl (Or.inl ⟨rfl, rfl⟩) (k0 _ hk) ⟨rfl, rfl⟩
  · have hr := ifn hr hc
    refine r_aload_n dX12_orderAt_19 rfl 0 rfl (nl rfl) ?_
    refine r_get 12 46 (o := a0) (w := (50, h2 a0 46)) (T := TX12) (ref := "FollowingRefsModel") rfl (by decide) rfl (by decide) inlX12 (wsl_8 _ (List.mem_of_getElem? (i := 4) rfl)) rfl dX12_orderAt_20 rfl ?_
    refine r_iload_n dX12_orderAt_23 rfl 1 rfl (Or.inl rfl) ?_
    obtain ⟨v24, hg24, hr⟩ := bnd hr
    refine r_iald dX12_orderAt_24 hg24 ?_
    refine r_goto dX12_orderAt_25 (tgt := 29) (by decide) ?_
    obtain rfl := Option.some.inj hr
    exact r_ret dX12_orderAt_29 rfl (Or.inl ⟨rfl, rfl⟩) (k0 _ hk) ⟨rfl, rfl⟩
end M_X12_orderAt
theorem oX12_orderAt {l : Launch} {D : va_G} {G : gG} {h : hH} {a0 a1 : Int} {r : Int × hH} (hr : fX12_orderAt h a0 a1 = some r) : Ctr l D G true yX12_orderAt M_X12_orderAt [(22, a0), (0, a1)] h (some (0, r.1), r.2) :=
  Ctr_of (by decide) rfl (fun z => by cases z) (nl rfl) (fun {p e R s m args below meth c A H0} => by
    exact oX12_orderAt_b0 (K := fun z9 => z9 = r) (fun r9 z => by rw [z]) hr rfl)
/-! X12_mean -/
theorem dX12_mean_0 : decode cX12_mean 0 = .ok (.iconst 0, 1) := by decide +kernel
theorem dX12_mean_1 : decode cX12_mean 1 = .ok (.istore 4, 2) := by decide +kernel
theorem dX12_mean_3 : decode cX12_mean 3 = .ok (.iconst 0, 1) := by decide +kernel
theorem dX12_mean_4 : decode cX12_mean 4 = .ok (.istore 5, 2) := by decide +kernel
theorem dX12_mean_6 : decode cX12_mean 6 = .ok (.iconst 0, 1) := by decide +kernel
theorem dX12_mean_7 : decode cX12_mean 7 = .ok (.istore 6, 2) := by decide +kernel
theorem dX12_mean_9 : decode cX12_mean 9 = .ok (.iload 6, 2) := by decide +kernel
theorem dX12_mean_11 : decode cX12_mean 11 = .ok (.bipush 99, 2) := by decide +kernel
theorem dX12_mean_13 : decode cX12_mean 13 = .ok (.if_icmp .ge 56, 3) := by decide +kernel
theorem dX12_mean_16 : decode cX12_mean 16 = .ok (.aload_n 0, 1) := by decide +kernel
theorem dX12_mean_17 : decode cX12_mean 17 = .ok (.iload_n 1, 1) := by decide +kernel
theorem dX12_mean_18 : decode cX12_mean 18 = .ok (.iload_n 2, 1) := by decide +kernel
theorem dX12_mean_19 : decode cX12_mean 19 = .ok (.invokevirtual 492, 3) := by decide +kernel
theorem dX12_mean_22 : decode cX12_mean 22 = .ok (.ifCond .eq 47, 3) := by decide +kernel
theorem dX12_mean_25 : decode cX12_mean 25 = .ok (.aload_n 0, 1) := by decide +kernel
theorem dX12_mean_26 : decode cX12_mean 26 = .ok (.iload 6, 2) := by decide +kernel
theorem dX12_mean_28 : decode cX12_mean 28 = .ok (.iload_n 1, 1) := by decide +kernel
theorem dX12_mean_29 : decode cX12_mean 29 = .ok (.invokevirtual 330, 3) := by decide +kernel
theorem dX12_mean_32 : decode cX12_mean 32 = .ok (.ifCond .eq 31, 3) := by decide +kernel
theorem dX12_mean_35 : decode cX12_mean 35 = .ok (.aload_n 0, 1) := by decide +kernel
theorem dX12_mean_36 : decode cX12_mean 36 = .ok (.iload 6, 2) := by decide +kernel
theorem dX12_mean_38 : decode cX12_mean 38 = .ok (.iload_n 2, 1) := by decide +kernel
theorem dX12_mean_39 : decode cX12_mean 39 = .ok (.invokevirtual 320, 3) := by decide +kernel
theorem dX12_mean_42 : decode cX12_mean 42 = .ok (.ifCond .ge 6, 3) := by decide +kernel
theorem dX12_mean_45 : decode cX12_mean 45 = .ok (.goto 18, 3) := by decide +kernel
theorem dX12_mean_48 : decode cX12_mean 48 = .ok (.iload 4, 2) := by decide +kernel
theorem dX12_mean_50 : decode cX12_mean 50 = .ok (.aload_n 0, 1) := by decide +kernel
theorem dX12_mean_51 : decode cX12_mean 51 = .ok (.iload 6, 2) := by decide +kernel
theorem dX12_mean_53 : decode cX12_mean 53 = .ok (.iload_n 2, 1) := by decide +kernel
theorem dX12_mean_54 : decode cX12_mean 54 = .ok (.invokevirtual 320, 3) := by decide +kernel
theorem dX12_mean_57 : decode cX12_mean 57 = .ok (.iadd, 1) := by decide +kernel
theorem dX12_mean_58 : decode cX12_mean 58 = .ok (.istore 4, 2) := by decide +kernel
theorem dX12_mean_60 : decode cX12_mean 60 = .ok (.iinc 5 1, 3) := by decide +kernel
theorem dX12_mean_63 : decode cX12_mean 63 = .ok (.iinc 6 1, 3) := by decide +kernel
theorem dX12_mean_66 : decode cX12_mean 66 = .ok (.goto (-57), 3) := by decide +kernel
theorem dX12_mean_69 : decode cX12_mean 69 = .ok (.aload_n 0, 1) := by decide +kernel
theorem dX12_mean_70 : decode cX12_mean 70 = .ok (.iload 5, 2) := by decide +kernel
theorem dX12_mean_72 : decode cX12_mean 72 = .ok (.ifCond .eq 12, 3) := by decide +kernel
theorem dX12_mean_75 : decode cX12_mean 75 = .ok (.iload_n 3, 1) := by decide +kernel
theorem dX12_mean_76 : decode cX12_mean 76 = .ok (.iconst 0, 1) := by decide +kernel
theorem dX12_mean_77 : decode cX12_mean 77 = .ok (.iconst 1, 1) := by decide +kernel
theorem dX12_mean_78 : decode cX12_mean 78 = .ok (.invokestatic 229, 3) := by decide +kernel
theorem dX12_mean_81 : decode cX12_mean 81 = .ok (.ifCond .ne 7, 3) := by decide +kernel
theorem dX12_mean_84 : decode cX12_mean 84 = .ok (.iconst 1, 1) := by decide +kernel
theorem dX12_mean_85 : decode cX12_mean 85 = .ok (.goto 4, 3) := by decide +kernel
theorem dX12_mean_88 : decode cX12_mean 88 = .ok (.iconst 0, 1) := by decide +kernel
theorem dX12_mean_89 : decode cX12_mean 89 = .ok (.invokevirtual 495, 3) := by decide +kernel
theorem dX12_mean_92 : decode cX12_mean 92 = .ok (.ifCond .eq 5, 3) := by decide +kernel
theorem dX12_mean_95 : decode cX12_mean 95 = .ok (.iconst 0, 1) := by decide +kernel
theorem dX12_mean_96 : decode cX12_mean 96 = .ok (.ireturn, 1) := by decide +kernel
theorem dX12_mean_97 : decode cX12_mean 97 = .ok (.iload 5, 2) := by decide +kernel
theorem dX12_mean_99 : decode cX12_mean 99 = .ok (.istore 6, 2) := by decide +kernel
theorem dX12_mean_101 : decode cX12_mean 101 = .ok (.iload 4, 2) := by decide +kernel
theorem dX12_mean_103 : decode cX12_mean 103 = .ok (.istore 7, 2) := by decide +kernel
theorem dX12_mean_105 : decode cX12_mean 105 = .ok (.iload 7, 2) := by decide +kernel
theorem dX12_mean_107 : decode cX12_mean 107 = .ok (.ifCond .eq 21, 3) := by decide +kernel
theorem dX12_mean_110 : decode cX12_mean 110 = .ok (.iload 6, 2) := by decide +kernel
theorem dX12_mean_112 : decode cX12_mean 112 = .ok (.iload 7, 2) := by decide +kernel
theorem dX12_mean_114 : decode cX12_mean 114 = .ok (.irem, 1) := by decide +kernel
theorem dX12_mean_115 : decode cX12_mean 115 = .ok (.istore 8, 2) := by decide +kernel
theorem dX12_mean_117 : decode cX12_mean 117 = .ok (.iload 7, 2) := by decide +kernel
theorem dX12_mean_119 : decode cX12_mean 119 = .ok (.istore 6, 2) := by decide +kernel
theorem dX12_mean_121 : decode cX12_mean 121 = .ok (.iload 8, 2) := by decide +kernel
theorem dX12_mean_123 : decode cX12_mean 123 = .ok (.istore 7, 2) := by decide +kernel
theorem dX12_mean_125 : decode cX12_mean 125 = .ok (.goto (-20), 3) := by decide +kernel
theorem dX12_mean_128 : decode cX12_mean 128 = .ok (.iload_n 3, 1) := by decide +kernel
theorem dX12_mean_129 : decode cX12_mean 129 = .ok (.ifCond .ne 8, 3) := by decide +kernel
theorem dX12_mean_132 : decode cX12_mean 132 = .ok (.iload 4, 2) := by decide +kernel
theorem dX12_mean_134 : decode cX12_mean 134 = .ok (.goto 5, 3) := by decide +kernel
theorem dX12_mean_137 : decode cX12_mean 137 = .ok (.iload 5, 2) := by decide +kernel
theorem dX12_mean_139 : decode cX12_mean 139 = .ok (.iload 6, 2) := by decide +kernel
theorem dX12_mean_141 : decode cX12_mean 141 = .ok (.idiv, 1) := by decide +kernel
theorem dX12_mean_142 : decode cX12_mean 142 = .ok (.ireturn, 1) := by decide +kernel
abbrev M_X12_mean : mM := (cX12_mean, 9, RX12, some .int, false, 3, 65, 0, 0)
theorem gX12_mean : cI yX12_mean M_X12_mean 3 := ⟨(wsl_61 _ (List.mem_of_getElem? (i := 11) rfl)), (wsl_61 _ (List.mem_of_getElem? (i := 12) rfl)), (wsl_1 _ (List.mem_of_getElem? (i := 5) rfl)), (wsl_61 _ (List.mem_of_getElem? (i := 13) rfl)), by decide +kernel⟩
noncomputable def fX12_mean_b139 (h : hH) (l6 s0 : Int) : Option (Int × hH) :=
  (gdz l6).bind fun _ =>
  some (idvD s0 l6, h)
noncomputable def fX12_mean_s105 (h : hH) (a3 l4 l5 : Int) : Int × Int → Option ((Int × Int) ⊕ (Int × hH)) := fun (l6, l7) =>
  if l7 = 0 then
    if a3 = 0 then
      (fX12_mean_b139 h l6 l4).map (fun z9 => .inr (z9))
    else
      (fX12_mean_b139 h l6 l5).map (fun z9 => .inr (z9))
  else
    (gdz l7).bind fun _ =>
    some (.inl (l7, irmD l6 l7))
noncomputable def fX12_mean_b89 (h : hH) (a3 l4 l5 s0 s1 : Int) : Option (Int × hH) :=
  (fX12_throwsIf h s1 s0).bind fun q89 =>
  if q89.1 = 0 then
    lpO (fX12_mean_s105 q89.2 a3 l4 l5) (l5, l4)
  else
    some (0, q89.2)
noncomputable def fX12_mean_b84 (h : hH) (a3 l4 l5 s0 : Int) : Option (Int × hH) :=
  fX12_mean_b89 h a3 l4 l5 1 s0
noncomputable def fX12_mean_b69 (h : hH) (a0 a3 l4 l5 : Int) : Option (Int × hH) :=
  if l5 = 0 then
    fX12_mean_b84 h a3 l4 l5 a0
  else
    (fX12_isIn h a3 0 1).bind fun r78 =>
    if r78 = 0 then
      fX12_mean_b84 h a3 l4 l5 a0
    else
      fX12_mean_b89 h a3 l4 l5 0 a0
noncomputable def fX12_mean_s9 (h : hH) (a0 a1 a2 a3 : Int) : Int × Int × Int → Option ((Int × Int × Int) ⊕ (Int × hH)) := fun (l4, l5, l6) =>
  if l6 < 99 then
    (fX12_isCol h a0 a1 a2).bind fun r19 =>
    if r19 = 0 then
      (fX12_mean_b69 h a0 a3 l4 l5).map (fun z9 => .inr (z9))
    else
      (fX12_isRowOf h a0 l6 a1).bind fun r29 =>
      if r29 = 0 then
        some (.inl (l4, l5, w32 (l6 + 1)))
      else
        (fX12_cellOf h a0 l6 a2).bind fun r39 =>
        if r39 < 0 then
          some (.inl (l4, l5, w32 (l6 + 1)))
        else
          (fX12_cellOf h a0 l6 a2).bind fun r54 =>
          some (.inl (w32 (l4 + r54), w32 (l5 + 1), w32 (l6 + 1)))
  else
    (fX12_mean_b69 h a0 a3 l4 l5).map (fun z9 => .inr (z9))
noncomputable def fX12_mean (h : hH) (a0 a1 a2 a3 : Int) : Option (Int × hH) :=
  lpO (fX12_mean_s9 h a0 a1 a2 a3) (0, 0, 0)
section M_X12_mean
variable {p : Program} {l : Launch} {e : Env} {R : Room} {s : State} {m : MethodId} {args : Array Value} {below : List Frame} {meth : Method} {c : Code} {D : va_G} {G : gG} {A : Nat → Prop} {H0 : Heap} {n0 : Int} {x : Option vV × hH} {h : hH}
set_option maxRecDepth 100000 in
set_option maxHeartbeats 4000000 in
theorem oX12_mean_b139 {l6 s0 : Int} {K : Int × hH → Prop} (k0 : ∀ r, K (r) → x = (some (0, r.1), r.2)) {r : Int × hH} (hr : fX12_mean_b139 h l6 s0 = some r) (hk : K r) : Wq p l e R s m args below meth c D G A H0 true n0 M_X12_mean x 0 0 139 [(6, (0, l6))] [(0, s0)] h := by
  unfold fX12_mean_b139 at hr
  refine r_iload dX12_mean_139 0 rfl (Or.inl rfl) ?_
  obtain ⟨z141, hg141, hr⟩ := bnd hr
  refine r_idiv' dX12_mean_141 hg141 ?_
  obtain rfl := Option.some.inj hr
  exact r_ret dX12_mean_142 rfl (Or.inl ⟨rfl, rfl⟩) (k0 _ hk) ⟨rfl, rfl⟩
set_option maxRecDepth 100000 in
set_option maxHeartbeats 4000000 in
theorem oX12_mean_s105 {a3 l4 l5 l6 l7 : Int} {K : (Int × Int) ⊕ (Int × hH) → Prop} (k0 : ∀ r, K (.inr (r)) → x = (some (0, r.1), r.2)) (k1 : ∀ (l6 : Int) (l7 : Int), K (.inl (l6, l7)) → Wq p l e R s m args below meth c D G A H0 true n0 M_X12_mean x 0 0 105 [(3, (0, a3)), (4, (0, l4)), (5, (0, l5)), (6, (0, l6)), (7, (0, l7))] [] h) {r : (Int × Int) ⊕ (Int × hH)} (hr : fX12_mean_s105 h a3 l4 l5 (l6, l7) = some r) (hk : K r) : Wq p l e R s m args below meth c D G A H0 true n0 M_X12_mean x 0 0 105 [(3, (0, a3)), (4, (0, l4)), (5, (0, l5)), (6, (0, l6)), (7, (0, l7))] [] h := by
  unfold fX12_mean_s105 at hr
  refine r_iload dX12_mean_105 4 rfl (Or.inl rfl) ?_
  refine r_if_eq dX12_mean_107 (tgt := 128) (by decide) (fun hc => ?_) (fun hc => ?_)
  · have hr := ifp hr hc
    refine r_iload_n dX12_mean_128 rfl 0 rfl (Or.inl rfl) ?_
    refine r_if_ne dX12_mean_129 (tgt := 137) (by decide) (fun hc => ?_) (fun hc => ?_)
    · have hr := ifn hr hc
      refine r_iload dX12_mean_137 2 rfl (Or.inl rfl) ?_
      refine r_sub [3] (lv' := [(6, (0, l6))]) rfl ?_
      obtain ⟨r9, hr9, rfl⟩ := mpp hr
      exact oX12_mean_b139 (K := fun z9 => K (.inr (z9))) (fun r z => k0 r z) hr9 hk
    · have hr := ifp hr hc
      refine r_iload dX12_mean_132 1 rfl (Or.inl rfl) ?_
      refine r_goto dX12_mean_134 (tgt := 139) (by decide) ?_
      refine r_sub [3] (lv' := [(6, (0, l6))]) rfl ?_
      obtain ⟨r9, hr9, rfl⟩ := mpp hr
      exact oX12_mean_b139 (K := fun z9 => K (.inr (z9))) (fun r z => k0 r z) hr9 hk
  · have hr := ifn hr hc
    refine r_iload dX12_mean_110 3 rfl (Or.inl rfl) ?_
    refine r_iload dX12_mean_112 4 rfl (Or.inl rfl) ?_
    obtain ⟨z114, hg114, hr⟩ := bnd hr
    refine r_irem' dX12_mean_114 hg114 ?_
    refine r_istore dX12_mean_115 (Or.inl rfl) (by decide) (lv' := [(8, (0, irmD l6 l7)), (3, (0, a3)), (4, (0, l4)), (5, (0, l5)), (6, (0, l6)), (7, (0, l7))]) rfl ?_
    refine r_iload dX12_mean_117 5 rfl (Or.inl rfl) ?_
    refine r_istore dX12_mean_119 (Or.inl rfl) (by decide) (lv' := [(6, (0, l7)), (8, (0, irmD l6 l7)), (3, (0, a3)), (4, (0, l4)), (5, (0, l5)), (7, (0, l7))]) rfl ?_
    refine r_iload dX12_mean_121 1 rfl (Or.inl rfl) ?_
    refine r_istore dX12_mean_123 (Or.inl rfl) (by decide) (lv' := [(7, (0, irmD l6 l7)), (6, (0, l7)), (8, (0, irmD l6 l7)), (3, (0, a3)), (4, (0, l4)), (5, (0, l5))]) rfl ?_
    refine r_goto dX12_mean_125 (tgt := 105) (by decide) ?_
    refine r_sub [3, 4, 5, 1, 0] (lv' := [(3, (0, a3)), (4, (0, l4)), (5, (0, l5)), (6, (0, l7)), (7, (0, irmD l6 l7))]) rfl ?_
    obtain rfl := Option.some.inj hr
    exact k1 _ _ hk
set_option maxRecDepth 100000 in
set_option maxHeartbeats 4000000 in
theorem oX12_mean_b89 {a3 l4 l5 s0 s1 : Int} {K : Int × hH → Prop} (k0 : ∀ r, K (r) → x = (some (0, r.1), r.2)) {r : Int × hH} (hr : fX12_mean_b89 h a3 l4 l5 s0 s1 = some r) (hk : K r) : Wq p l e R s m args below meth c D G A H0 true n0 M_X12_mean x 0 0 89 [(3, (0, a3)), (4, (0, l4)), (5, (0, l5))] [(2, s0), (22, s1)] h := by
  unfold fX12_mean_b89 at hr
  obtain ⟨q89, hg89, hr⟩ := bnd hr
  refine k_V (ci := 12) (o := s1) (T := TX12) (as := [(2, s0)]) (rest := []) (X := (some (2, q89.1), q89.2)) (oX12_throwsIf hg89) gX12_throwsIf rfl (by decide) rfl (wsl_55 _ (List.mem_of_getElem? (i := 13) rfl)) rfl dX12_mean_89 rfl ?_
  refine r_scast 0 (v := (2, q89.1)) (w := (0, q89.1)) rfl zc hTz (st' := [(0, q89.1)]) rfl ?_
  refine r_if_eq dX12_mean_92 (tgt := 97) (by decide) (fun hc => ?_) (fun hc => ?_)
  · have hr := ifp hr hc
    refine r_iload dX12_mean_97 2 rfl (Or.inl rfl) ?_
    refine r_istore dX12_mean_99 (Or.inl rfl) (by decide) (lv' := [(6, (0, l5)), (3, (0, a3)), (4, (0, l4)), (5, (0, l5))]) rfl ?_
    refine r_iload dX12_mean_101 2 rfl (Or.inl rfl) ?_
    refine r_istore dX12_mean_103 (Or.inl rfl) (by decide) (lv' := [(7, (0, l4)), (6, (0, l5)), (3, (0, a3)), (4, (0, l4)), (5, (0, l5))]) rfl ?_
    refine r_sub [2, 3, 4, 1, 0] (lv' := [(3, (0, a3)), (4, (0, l4)), (5, (0, l5)), (6, (0, l5)), (7, (0, l4))]) rfl ?_
    exact lp_ok (w := fun (q : Int × Int) => Wq p l e R s m args below meth c D G A H0 true n0 M_X12_mean x 0 0 105 [(3, (0, a3)), (4, (0, l4)), (5, (0, l5)), (6, (0, q.1)), (7, (0, q.2))] [] (q89.2)) (K := K) (fun ⟨q0, q1⟩ r h1 h2 => oX12_mean_s105 (K := Sum.elim (fun (q : Int × Int) => Wq p l e R s m args below meth c D G A H0 true n0 M_X12_mean x 0 0 105 [(3, (0, a3)), (4, (0, l4)), (5, (0, l5)), (6, (0, q.1)), (7, (0, q.2))] [] (q89.2)) (K)) (fun r z => k0 r z) (fun _ _ z => z) h1 h2) hr hk
  · have hr := ifn hr hc
    refine r_iconst dX12_mean_95 (by decide) ?_
    obtain rfl := Option.some.inj hr
    exact r_ret dX12_mean_96 rfl (Or.inl ⟨rfl, rfl⟩) (k0 _ hk) ⟨rfl, rfl⟩
set_option maxRecDepth 100000 in
set_option maxHeartbeats 4000000 in
theorem oX12_mean_b84 {a3 l4 l5 s0 : Int} {K : Int × hH → Prop} (k0 : ∀ r, K (r) → x = (some (0, r.1), r.2)) {r : Int × hH} (hr : fX12_mean_b84 h a3 l4 l5 s0 = some r) (hk : K r) : Wq p l e R s m args below meth c D G A H0 true n0 M_X12_mean x 0 0 84 [(3, (0, a3)), (4, (0, l4)), (5, (0, l5))] [(22, s0)] h := by
  unfold fX12_mean_b84 at hr
  refine r_iconst dX12_mean_84 (by decide) ?_
  refine r_goto dX12_mean_85 (tgt := 89) (by decide) ?_
  refine r_scast 0 (v := (0, 1)) (w := (2, 1)) rfl cz (fun _ => Or.inr rfl) (st' := [(2, 1), (22, s0)]) rfl ?_
  exact oX12_mean_b89 (K := K) (fun r z => k0 r z) hr hk
set_option maxRecDepth 100000 in
set_option maxHeartbeats 4000000 in
theorem oX12_mean_b69 {a0 a3 l4 l5 : Int} {K : Int × hH → Prop} (k0 : ∀ r, K (r) → x = (some (0, r.1), r.2)) {r : Int × hH} (hr : fX12_mean_b69 h a0 a3 l4 l5 = some r) (hk : K r) : Wq p l e R s m args below meth c D G A H0 true n0 M_X12_mean x 0 0 69 [(0, (22, a0)), (3, (0, a3)), (4, (0, l4)), (5, (0, l5))] [] h := by
  unfold fX12_mean_b69 at hr
  refine r_aload_n dX12_mean_69 rfl 0 rfl (nl rfl) ?_
  refine r_iload dX12_mean_70 3 rfl (Or.inl rfl) ?_
  refine r_if_eq dX12_mean_72 (tgt := 84) (by decide) (fun hc => ?_) (fun hc => ?_)
  · have hr := ifp hr hc
    refine r_sub [1, 2, 3] (lv' := [(3, (0, a3)), (4, (0, l4)), (5, (0, l5))]) rfl ?_
    exact oX12_mean_b84 (K := K) (fun r z => k0 r z) hr hk
  · have hr := ifn hr hc
    refine r_iload_n dX12_mean_75 rfl 1 rfl (Or.inl rfl) ?_
    refine r_iconst dX12_mean_76 (by decide) ?_
    refine r_iconst dX12_mean_77 (by decide) ?_
    obtain ⟨r78, hg78, hr⟩ := bnd hr
    refine k_S (as := [(0, a3), (0, 0), (0, 1)]) (rest := [(22, a0)]) (X := (some (2, r78), h)) (oX12_isIn hg78) gX12_isIn rfl (wsl_28 _ (List.mem_of_getElem? (i := 1) rfl)) rfl dX12_mean_78 rfl ?_
    refine r_scast 0 (v := (2, r78)) (w := (0, r78)) rfl zc hTz (st' := [(0, r78), (22, a0)]) rfl ?_
    refine r_if_ne dX12_mean_81 (tgt := 88) (by decide) (fun hc => ?_) (fun hc => ?_)
    · have hr := ifn hr hc
      refine r_iconst dX12_mean_88 (by decide) ?_
      refine r_sub [1, 2, 3] (lv' := [(3, (0, a3)), (4, (0, l4)), (5, (0, l5))]) rfl ?_
      refine r_scast 0 (v := (0, 0)) (w := (2, 0)) rfl cz (fun _ => Or.inl rfl) (st' := [(2, 0), (22, a0)]) rfl ?_
      exact oX12_mean_b89 (K := K) (fun r z => k0 r z) hr hk
    · have hr := ifp hr hc
      refine r_sub [1, 2, 3] (lv' := [(3, (0, a3)), (4, (0, l4)), (5, (0, l5))]) rfl ?_
      exact oX12_mean_b84 (K := K) (fun r z => k0 r z) hr hk
set_option maxRecDepth 100000 in
set_option maxHeartbeats 4000000 in
theorem oX12_mean_s9 {a0 a1 a2 a3 l4 l5 l6 : Int} {K : (Int × Int × Int) ⊕ (Int × hH) → Prop} (k0 : ∀ r, K (.inr (r)) → x = (some (0, r.1), r.2)) (k1 : ∀ (l4 : Int) (l5 : Int) (l6 : Int), K (.inl (l4, l5, l6)) → Wq p l e R s m args below meth c D G A H0 true n0 M_X12_mean x 0 0 9 [(0, (22, a0)), (1, (0, a1)), (2, (0, a2)), (3, (0, a3)), (4, (0, l4)), (5, (0, l5)), (6, (0, l6))] [] h) {r : (Int × Int × Int) ⊕ (Int × hH)} (hr : fX12_mean_s9 h a0 a1 a2 a3 (l4, l5, l6) = some r) (hk : K r) : Wq p l e R s m args below meth c D G A H0 true n0 M_X12_mean x 0 0 9 [(0, (22, a0)), (1, (0, a1)), (2, (0, a2)), (3, (0, a3)), (4, (0, l4)), (5, (0, l5)), (6, (0, l6))] [] h := by
  unfold fX12_mean_s9 at hr
  refine r_iload dX12_mean_9 6 rfl (Or.inl rfl) ?_
  refine r_bipush dX12_mean_11 (by decide) (by decide) ?_
  refine r_icmp_ge dX12_mean_13 (tgt := 69) (by decide) (fun hc => ?_) (fun hc => ?_)
  · have hr := ifn hr hc
    refine r_sub [0, 3, 4, 5] (lv' := [(0, (22, a0)), (3, (0, a3)), (4, (0, l4)), (5, (0, l5))]) rfl ?_
    obtain ⟨r9, hr9, rfl⟩ := mpp hr
    exact oX12_mean_b69 (K := fun z9 => K (.inr (z9))) (fun r z => k0 r z) hr9 hk
  · have hr := ifp hr hc
    refine r_aload_n dX12_mean_16 rfl 0 rfl (nl rfl) ?_
    refine r_iload_n dX12_mean_17 rfl 1 rfl (Or.inl rfl) ?_
    refine r_iload_n dX12_mean_18 rfl 2 rfl (Or.inl rfl) ?_
    obtain ⟨r19, hg19, hr⟩ := bnd hr
    refine k_V (ci := 12) (o := a0) (T := TX12) (as := [(0, a1), (0, a2)]) (rest := []) (X := (some (2, r19), h)) (oX12_isCol hg19) gX12_isCol rfl (by decide) rfl (wsl_55 _ (List.mem_of_getElem? (i := 9) rfl)) rfl dX12_mean_19 rfl ?_
    refine r_scast 0 (v := (2, r19)) (w := (0, r19)) rfl zc hTz (st' := [(0, r19)]) rfl ?_
    refine r_if_eq dX12_mean_22 (tgt := 69) (by decide) (fun hc => ?_) (fun hc => ?_)
    · have hr := ifp hr hc
      refine r_sub [0, 3, 4, 5] (lv' := [(0, (22, a0)), (3, (0, a3)), (4, (0, l4)), (5, (0, l5))]) rfl ?_
      obtain ⟨r9, hr9, rfl⟩ := mpp hr
      exact oX12_mean_b69 (K := fun z9 => K (.inr (z9))) (fun r z => k0 r z) hr9 hk
    · have hr := ifn hr hc
      refine r_aload_n dX12_mean_25 rfl 0 rfl (nl rfl) ?_
      refine r_iload dX12_mean_26 6 rfl (Or.inl rfl) ?_
      refine r_iload_n dX12_mean_28 rfl 1 rfl (Or.inl rfl) ?_
      obtain ⟨r29, hg29, hr⟩ := bnd hr
      refine k_V (ci := 12) (o := a0) (T := TX12) (as := [(0, l6), (0, a1)]) (rest := []) (X := (some (2, r29), h)) (oX12_isRowOf hg29) gX12_isRowOf rfl (by decide) rfl (wsl_43 _ (List.mem_of_getElem? (i := 9) rfl)) rfl dX12_mean_29 rfl ?_
      refine r_scast 0 (v := (2, r29)) (w := (0, r29)) rfl zc hTz (st' := [(0, r29)]) rfl ?_
      refine r_if_eq dX12_mean_32 (tgt := 63) (by decide) (fun hc => ?_) (fun hc => ?_)
      · have hr := ifp hr hc
        refine r_iinc (k := 6) (v := l6) dX12_mean_63 rfl (by decide) (lv' := [(6, (0, w32 (l6 + 1))), (0, (22, a0)), (1, (0, a1)), (2, (0, a2)), (3, (0, a3)), (4, (0, l4)), (5, (0, l5))]) rfl ?_
        refine r_goto dX12_mean_66 (tgt := 9) (by decide) ?_
        refine r_sub [1, 2, 3, 4, 5, 6, 0] (lv' := [(0, (22, a0)), (1, (0, a1)), (2, (0, a2)), (3, (0, a3)), (4, (0, l4)), (5, (0, l5)), (6, (0, w32 (l6 + 1)))]) rfl ?_
        obtain rfl := Option.some.inj hr
        exact k1 _ _ _ hk
      · have hr := ifn hr hc
        refine r_aload_n dX12_mean_35 rfl 0 rfl (nl rfl) ?_
        refine r_iload dX12_mean_36 6 rfl (Or.inl rfl) ?_
        refine r_iload_n dX12_mean_38 rfl 2 rfl (Or.inl rfl) ?_
        obtain ⟨r39, hg39, hr⟩ := bnd hr
        refine k_V (ci := 12) (o := a0) (T := TX12) (as := [(0, l6), (0, a2)]) (rest := []) (X := (some (0, r39), h)) (oX12_cellOf hg39) gX12_cellOf rfl (by decide) rfl (wsl_42 _ (List.mem_of_getElem? (i := 17) rfl)) rfl dX12_mean_39 rfl ?_
        refine r_if_ge dX12_mean_42 (tgt := 48) (by decide) (fun hc => ?_) (fun hc => ?_)
        · have hr := ifn hr hc
          refine r_iload dX12_mean_48 4 rfl (Or.inl rfl) ?_
          refine r_aload_n dX12_mean_50 rfl 0 rfl (nl rfl) ?_
          refine r_iload dX12_mean_51 6 rfl (Or.inl rfl) ?_
          refine r_iload_n dX12_mean_53 rfl 2 rfl (Or.inl rfl) ?_
          obtain ⟨r54, hg54, hr⟩ := bnd hr
          refine k_V (ci := 12) (o := a0) (T := TX12) (as := [(0, l6), (0, a2)]) (rest := [(0, l4)]) (X := (some (0, r54), h)) (oX12_cellOf hg54) gX12_cellOf rfl (by decide) rfl (wsl_42 _ (List.mem_of_getElem? (i := 17) rfl)) rfl dX12_mean_54 rfl ?_
          refine r_iadd dX12_mean_57 ?_
          refine r_istore dX12_mean_58 (Or.inl rfl) (by decide) (lv' := [(4, (0, w32 (l4 + r54))), (0, (22, a0)), (1, (0, a1)), (2, (0, a2)), (3, (0, a3)), (5, (0, l5)), (6, (0, l6))]) rfl ?_
          refine r_iinc (k := 5) (v := l5) dX12_mean_60 rfl (by decide) (lv' := [(5, (0, w32 (l5 + 1))), (4, (0, w32 (l4 + r54))), (0, (22, a0)), (1, (0, a1)), (2, (0, a2)), (3, (0, a3)), (6, (0, l6))]) rfl ?_
          refine r_iinc (k := 6) (v := l6) dX12_mean_63 rfl (by decide) (lv' := [(6, (0, w32 (l6 + 1))), (5, (0, w32 (l5 + 1))), (4, (0, w32 (l4 + r54))), (0, (22, a0)), (1, (0, a1)), (2, (0, a2)), (3, (0, a3))]) rfl ?_
          refine r_goto dX12_mean_66 (tgt := 9) (by decide) ?_
          refine r_sub [3, 4, 5, 6, 2, 1, 0] (lv' := [(0, (22, a0)), (1, (0, a1)), (2, (0, a2)), (3, (0, a3)), (4, (0, w32 (l4 + r54))), (5, (0, w32 (l5 + 1))), (6, (0, w32 (l6 + 1)))]) rfl ?_
          obtain rfl := Option.some.inj hr
          exact k1 _ _ _ hk
        · have hr := ifp hr hc
          refine r_goto dX12_mean_45 (tgt := 63) (by decide) ?_
          refine r_iinc (k := 6) (v := l6) dX12_mean_63 rfl (by decide) (lv' := [(6, (0, w32 (l6 + 1))), (0, (22, a0)), (1, (0, a1)), (2, (0, a2)), (3, (0, a3)), (4, (0, l4)), (5, (0, l5))]) rfl ?_
          refine r_goto dX12_mean_66 (tgt := 9) (by decide) ?_
          refine r_sub [1, 2, 3, 4, 5, 6, 0] (lv' := [(0, (22, a0)), (1, (0, a1)), (2, (0, a2)), (3, (0, a3)), (4, (0, l4)), (5, (0, l5)), (6, (0, w32 (l6 + 1)))]) rfl ?_
          obtain rfl := Option.some.inj hr
          exact k1 _ _ _ hk
set_option maxRecDepth 100000 in
set_option maxHeartbeats 4000000 in
theorem oX12_mean_b0 {a0 a1 a2 a3 : Int} {K : Int × hH → Prop} (k0 : ∀ r, K (r) → x = (some (0, r.1), r.2)) {r : Int × hH} (hr : fX12_mean h a0 a1 a2 a3 = some r) (hk : K r) : Wq p l e R s m args below meth c D G A H0 true n0 M_X12_mean x 0 0 0 [(0, (22, a0)), (1, (0, a1)), (2, (0, a2)), (3, (0, a3))] [] h := by
  unfold fX12_mean at hr
  refine r_iconst dX12_mean_0 (by decide) ?_
  refine r_istore dX12_mean_1 (Or.inl rfl) (by decide) (lv' := [(4, (0, 0)), (0, (22, a0)), (1, (0, a1)), (2, (0, a2)), (3, (0, a3))]) rfl ?_
  refine r_iconst dX12_mean_3 (by decide) ?_
  refine r_istore dX12_mean_4 (Or.inl rfl) (by decide) (lv' := [(5, (0, 0)), (4, (0, 0)), (0, (22, a0)), (1, (0, a1)), (2, (0, a2)), (3, (0, a3))]) rfl ?_
  refine r_iconst dX12_mean_6 (by decide) ?_
  refine r_istore dX12_mean_7 (Or.inl rfl) (by decide) (lv' := [(6, (0, 0)), (5, (0, 0)), (4, (0, 0)), (0, (22, a0)), (1, (0, a1)), (2, (0, a2)), (3, (0, a3))]) rfl ?_
  refine r_sub [3, 4, 5, 6, 2, 1, 0] (lv' := [(0, (22, a0)), (1, (0, a1)), (2, (0, a2)), (3, (0, a3)), (4, (0, 0)), (5, (0, 0)), (6, (0, 0))]) rfl ?_
  exact lp_ok (w := fun (q : Int × Int × Int) => Wq p l e R s m args below meth c D G A H0 true n0 M_X12_mean x 0 0 9 [(0, (22, a0)), (1, (0, a1)), (2, (0, a2)), (3, (0, a3)), (4, (0, q.1)), (5, (0, q.2.1)), (6, (0, q.2.2))] [] (h)) (K := K) (fun ⟨q0, q1, q2⟩ r h1 h2 => oX12_mean_s9 (K := Sum.elim (fun (q : Int × Int × Int) => Wq p l e R s m args below meth c D G A H0 true n0 M_X12_mean x 0 0 9 [(0, (22, a0)), (1, (0, a1)), (2, (0, a2)), (3, (0, a3)), (4, (0, q.1)), (5, (0, q.2.1)), (6, (0, q.2.2))] [] (h)) (K)) (fun r z => k0 r z) (fun _ _ _ z => z) h1 h2) hr hk
end M_X12_mean
theorem oX12_mean {l : Launch} {D : va_G} {G : gG} {h : hH} {a0 a1 a2 a3 : Int} {r : Int × hH} (hr : fX12_mean h a0 a1 a2 a3 = some r) : Ctr l D G true yX12_mean M_X12_mean [(22, a0), (0, a1), (0, a2), (0, a3)] h (some (0, r.1), r.2) :=
  Ctr_of (by decide) rfl (fun z => by cases z) (nl rfl) (fun {p e R s m args below meth c A H0} => by
    exact oX12_mean_b0 (K := fun z9 => z9 = r) (fun r9 z => by rw [z]) hr rfl)
/-! X12_lays -/
theorem dX12_lays_0 : decode cX12_lays 0 = .ok (.aload_n 0, 1) := by decide +kernel
theorem dX12_lays_1 : decode cX12_lays 1 = .ok (.getfield 104, 3) := by decide +kernel
theorem dX12_lays_4 : decode cX12_lays 4 = .ok (.aload_n 0, 1) := by decide +kernel
theorem dX12_lays_5 : decode cX12_lays 5 = .ok (.getfield 511, 3) := by decide +kernel
theorem dX12_lays_8 : decode cX12_lays 8 = .ok (.iload_n 1, 1) := by decide +kernel
theorem dX12_lays_9 : decode cX12_lays 9 = .ok (.i2b, 1) := by decide +kernel
theorem dX12_lays_10 : decode cX12_lays 10 = .ok (.bastore, 1) := by decide +kernel
theorem dX12_lays_11 : decode cX12_lays 11 = .ok (.aload_n 0, 1) := by decide +kernel
theorem dX12_lays_12 : decode cX12_lays 12 = .ok (.dup, 1) := by decide +kernel
theorem dX12_lays_13 : decode cX12_lays 13 = .ok (.getfield 511, 3) := by decide +kernel
theorem dX12_lays_16 : decode cX12_lays 16 = .ok (.iconst 1, 1) := by decide +kernel
theorem dX12_lays_17 : decode cX12_lays 17 = .ok (.iadd, 1) := by decide +kernel
theorem dX12_lays_18 : decode cX12_lays 18 = .ok (.putfield 511, 3) := by decide +kernel
theorem dX12_lays_21 : decode cX12_lays 21 = .ok (.return_, 1) := by decide +kernel
abbrev M_X12_lays : mM := (cX12_lays, 2, RX12, none, false, 0, 0, 0, 0)
theorem gX12_lays : cI yX12_lays M_X12_lays 1 := ⟨(wsl_62 _ (List.mem_of_getElem? (i := 19) rfl)), (wsl_62 _ (List.mem_of_getElem? (i := 20) rfl)), (wsl_1 _ (List.mem_of_getElem? (i := 5) rfl)), (wsl_62 _ (List.mem_of_getElem? (i := 21) rfl)), by decide +kernel⟩
noncomputable def fX12_lays (h : hH) (a0 a1 : Int) : Option (hH) :=
  (aput h (h a0 49) (h a0 50) (i2bD (i2bD a1))).bind fun h10 =>
  (pput h10 a0 50 (w32 ((h10 a0 50) + 1))).bind fun h18 =>
  some h18
section M_X12_lays
variable {p : Program} {l : Launch} {e : Env} {R : Room} {s : State} {m : MethodId} {args : Array Value} {below : List Frame} {meth : Method} {c : Code} {D : va_G} {G : gG} {A : Nat → Prop} {H0 : Heap} {n0 : Int} {x : Option vV × hH} {h : hH}
set_option maxRecDepth 100000 in
set_option maxHeartbeats 4000000 in
theorem oX12_lays_b0 {a0 a1 : Int} {K : hH → Prop} (k0 : ∀ r, K (r) → x = (none, r)) {r : hH} (hr : fX12_lays h a0 a1 = some r) (hk : K r) : Wq p l e R s m args below meth c D G A H0 true n0 M_X12_lays x 0 0 0 [(0, (22, a0)), (1, (0, a1))] [] h := by
  unfold fX12_lays at hr
  refine r_aload_n dX12_lays_0 rfl 0 rfl (nl rfl) ?_
  refine r_get 12 49 (o := a0) (w := (52, h a0 49)) (T := TX12) (ref := "FollowingRefsModel") rfl (by decide) rfl (by decide) inlX12 (wsl_8 _ (List.mem_of_getElem? (i := 7) rfl)) rfl dX12_lays_1 rfl ?_
  refine r_aload_n dX12_lays_4 rfl 0 rfl (nl rfl) ?_
  refine r_get 12 50 (o := a0) (w := (0, h a0 50)) (T := TX12) (ref := "FollowingRefsModel") rfl (by decide) rfl (by decide) inlX12 (wsl_62 _ (List.mem_of_getElem? (i := 12) rfl)) rfl dX12_lays_5 rfl ?_
  refine r_iload_n dX12_lays_8 rfl 1 rfl (Or.inl rfl) ?_
  refine r_i2b dX12_lays_9 ?_
  obtain ⟨h10, hg10, hr⟩ := bnd hr
  refine r_bast dX12_lays_10 hg10 ?_
  refine r_aload_n dX12_lays_11 rfl 0 rfl (nl rfl) ?_
  refine r_dup dX12_lays_12 (Nat.ne_of_beq_eq_false rfl) ?_
  refine r_get 12 50 (o := a0) (w := (0, h10 a0 50)) (T := TX12) (ref := "FollowingRefsModel") rfl (by decide) rfl (by decide) inlX12 (wsl_62 _ (List.mem_of_getElem? (i := 12) rfl)) rfl dX12_lays_13 rfl ?_
  refine r_iconst dX12_lays_16 (by decide) ?_
  refine r_iadd dX12_lays_17 ?_
  obtain ⟨h18, hg18, hr⟩ := bnd hr
  refine r_put' 12 50 (t := 0) (ref := "FollowingRefsModel") hg18 rfl tyX12 tyX12_ok nmX12 rfl (by decide) rfl (by decide) inlX12 (wsl_62 _ (List.mem_of_getElem? (i := 12) rfl)) rfl rfl (by decide +kernel) (by decide) rfl (Or.inl ⟨rfl, rfl⟩) dX12_lays_18 ?_
  obtain rfl := Option.some.inj hr
  exact r_vret dX12_lays_21 rfl (k0 _ hk) ⟨rfl, rfl⟩
end M_X12_lays
theorem oX12_lays {l : Launch} {D : va_G} {G : gG} {h : hH} {a0 a1 : Int} {r : hH} (hr : fX12_lays h a0 a1 = some r) : Ctr l D G true yX12_lays M_X12_lays [(22, a0), (0, a1)] h (none, r) :=
  Ctr_of (by decide) rfl (fun z => by cases z) (nl rfl) (fun {p e R s m args below meth c A H0} => by
    exact oX12_lays_b0 (K := fun z9 => z9 = r) (fun r9 z => by rw [z]) hr rfl)
/-! X12_spells -/
theorem dX12_spells_0 : decode cX12_spells 0 = .ok (.bipush 56, 2) := by decide +kernel
theorem dX12_spells_2 : decode cX12_spells 2 = .ok (.istore_n 3, 1) := by decide +kernel
theorem dX12_spells_3 : decode cX12_spells 3 = .ok (.iload_n 3, 1) := by decide +kernel
theorem dX12_spells_4 : decode cX12_spells 4 = .ok (.ifCond .lt 33, 3) := by decide +kernel
theorem dX12_spells_7 : decode cX12_spells 7 = .ok (.lload_n 1, 1) := by decide +kernel
theorem dX12_spells_8 : decode cX12_spells 8 = .ok (.iload_n 3, 1) := by decide +kernel
theorem dX12_spells_9 : decode cX12_spells 9 = .ok (.lshr, 1) := by decide +kernel
theorem dX12_spells_10 : decode cX12_spells 10 = .ok (.ldc2_w 514, 3) := by decide +kernel
theorem dX12_spells_13 : decode cX12_spells 13 = .ok (.land, 1) := by decide +kernel
theorem dX12_spells_14 : decode cX12_spells 14 = .ok (.lconst 0, 1) := by decide +kernel
theorem dX12_spells_15 : decode cX12_spells 15 = .ok (.lcmp, 1) := by decide +kernel
theorem dX12_spells_16 : decode cX12_spells 16 = .ok (.ifCond .eq 15, 3) := by decide +kernel
theorem dX12_spells_19 : decode cX12_spells 19 = .ok (.aload_n 0, 1) := by decide +kernel
theorem dX12_spells_20 : decode cX12_spells 20 = .ok (.lload_n 1, 1) := by decide +kernel
theorem dX12_spells_21 : decode cX12_spells 21 = .ok (.iload_n 3, 1) := by decide +kernel
theorem dX12_spells_22 : decode cX12_spells 22 = .ok (.lshr, 1) := by decide +kernel
theorem dX12_spells_23 : decode cX12_spells 23 = .ok (.ldc2_w 514, 3) := by decide +kernel
theorem dX12_spells_26 : decode cX12_spells 26 = .ok (.land, 1) := by decide +kernel
theorem dX12_spells_27 : decode cX12_spells 27 = .ok (.l2i, 1) := by decide +kernel
theorem dX12_spells_28 : decode cX12_spells 28 = .ok (.invokevirtual 516, 3) := by decide +kernel
theorem dX12_spells_31 : decode cX12_spells 31 = .ok (.iinc 3 (-8), 3) := by decide +kernel
theorem dX12_spells_34 : decode cX12_spells 34 = .ok (.goto (-31), 3) := by decide +kernel
theorem dX12_spells_37 : decode cX12_spells 37 = .ok (.return_, 1) := by decide +kernel
abbrev M_X12_spells : mM := (cX12_spells, 4, RX12, none, false, 1, 21, 0, 0)
theorem gX12_spells : cI yX12_spells M_X12_spells 1 := ⟨(wsl_62 _ (List.mem_of_getElem? (i := 14) rfl)), (wsl_62 _ (List.mem_of_getElem? (i := 15) rfl)), (wsl_1 _ (List.mem_of_getElem? (i := 5) rfl)), (wsl_62 _ (List.mem_of_getElem? (i := 16) rfl)), by decide +kernel⟩
noncomputable def fX12_spells_s3 (h0 : hH) (a0 a1 : Int) : hH × Int → Option ((hH × Int) ⊕ (hH)) := fun (h, l3) =>
  if l3 < 0 then
    some (.inr (h))
  else
    if lcmD (landD (lsrD a1 l3) 255) 0 = 0 then
      some (.inl (h, w32 (l3 + (-8))))
    else
      (fX12_lays h a0 (w32 (landD (lsrD a1 l3) 255))).bind fun h28 =>
      some (.inl (h28, w32 (l3 + (-8))))
noncomputable def fX12_spells (h : hH) (a0 a1 : Int) : Option (hH) :=
  lpO (fX12_spells_s3 h a0 a1) (h, 56)
section M_X12_spells
variable {p : Program} {l : Launch} {e : Env} {R : Room} {s : State} {m : MethodId} {args : Array Value} {below : List Frame} {meth : Method} {c : Code} {D : va_G} {G : gG} {A : Nat → Prop} {H0 : Heap} {n0 : Int} {x : Option vV × hH} {h : hH}
set_option maxRecDepth 100000 in
set_option maxHeartbeats 4000000 in
theorem oX12_spells_s3 {h0 : hH} {a0 a1 l3 : Int} {K : (hH × Int) ⊕ (hH) → Prop} (k0 : ∀ r, K (.inr (r)) → x = (none, r)) (k1 : ∀ (h : hH) (l3 : Int), K (.inl (h, l3)) → Wq p l e R s m args below meth c D G A H0 true n0 M_X12_spells x 0 0 3 [(0, (22, a0)), (1, (1, a1)), (3, (0, l3))] [] h) {r : (hH × Int) ⊕ (hH)} (hr : fX12_spells_s3 h0 a0 a1 (h, l3) = some r) (hk : K r) : Wq p l e R s m args below meth c D G A H0 true n0 M_X12_spells x 0 0 3 [(0, (22, a0)), (1, (1, a1)), (3, (0, l3))] [] h := by
  unfold fX12_spells_s3 at hr
  refine r_iload_n dX12_spells_3 rfl 2 rfl (Or.inl rfl) ?_
  refine r_if_lt dX12_spells_4 (tgt := 37) (by decide) (fun hc => ?_) (fun hc => ?_)
  · have hr := ifp hr hc
    obtain rfl := Option.some.inj hr
    exact r_vret dX12_spells_37 rfl (k0 _ hk) ⟨rfl, rfl⟩
  · have hr := ifn hr hc
    refine r_lload_n dX12_spells_7 rfl 1 rfl ?_
    refine r_iload_n dX12_spells_8 rfl 2 rfl (Or.inl rfl) ?_
    refine r_lshr dX12_spells_9 ?_
    refine r_ldc2' (v := 255) dX12_spells_10 (by decide) (wsl_62 _ (List.mem_of_getElem? (i := 17) rfl)) ?_
    refine r_land dX12_spells_13 ?_
    refine r_lconst (v := 0) dX12_spells_14 (by decide) (by decide) ?_
    refine r_lcmp dX12_spells_15 ?_
    refine r_if_eq dX12_spells_16 (tgt := 31) (by decide) (fun hc => ?_) (fun hc => ?_)
    · have hr := ifp hr hc
      refine r_iinc (k := 2) (v := l3) dX12_spells_31 rfl (by decide) (lv' := [(3, (0, w32 (l3 + (-8)))), (0, (22, a0)), (1, (1, a1))]) rfl ?_
      refine r_goto dX12_spells_34 (tgt := 3) (by decide) ?_
      refine r_sub [1, 2, 0] (lv' := [(0, (22, a0)), (1, (1, a1)), (3, (0, w32 (l3 + (-8))))]) rfl ?_
      obtain rfl := Option.some.inj hr
      exact k1 _ _ hk
    · have hr := ifn hr hc
      refine r_aload_n dX12_spells_19 rfl 0 rfl (nl rfl) ?_
      refine r_lload_n dX12_spells_20 rfl 1 rfl ?_
      refine r_iload_n dX12_spells_21 rfl 2 rfl (Or.inl rfl) ?_
      refine r_lshr dX12_spells_22 ?_
      refine r_ldc2' (v := 255) dX12_spells_23 (by decide) (wsl_62 _ (List.mem_of_getElem? (i := 17) rfl)) ?_
      refine r_land dX12_spells_26 ?_
      refine r_l2i dX12_spells_27 ?_
      obtain ⟨h28, hg28, hr⟩ := bnd hr
      refine k_V (ci := 12) (o := a0) (T := TX12) (as := [(0, w32 (landD (lsrD a1 l3) 255))]) (rest := []) (X := (none, h28)) (oX12_lays hg28) gX12_lays rfl (by decide) rfl (wsl_62 _ (List.mem_of_getElem? (i := 18) rfl)) rfl dX12_spells_28 rfl ?_
      refine r_iinc (k := 2) (v := l3) dX12_spells_31 rfl (by decide) (lv' := [(3, (0, w32 (l3 + (-8)))), (0, (22, a0)), (1, (1, a1))]) rfl ?_
      refine r_goto dX12_spells_34 (tgt := 3) (by decide) ?_
      refine r_sub [1, 2, 0] (lv' := [(0, (22, a0)), (1, (1, a1)), (3, (0, w32 (l3 + (-8))))]) rfl ?_
      obtain rfl := Option.some.inj hr
      exact k1 _ _ hk
set_option maxRecDepth 100000 in
set_option maxHeartbeats 4000000 in
theorem oX12_spells_b0 {a0 a1 : Int} {K : hH → Prop} (k0 : ∀ r, K (r) → x = (none, r)) {r : hH} (hr : fX12_spells h a0 a1 = some r) (hk : K r) : Wq p l e R s m args below meth c D G A H0 true n0 M_X12_spells x 0 0 0 [(0, (22, a0)), (1, (1, a1))] [] h := by
  unfold fX12_spells at hr
  refine r_bipush dX12_spells_0 (by decide) (by decide) ?_
  refine r_istore_n dX12_spells_2 rfl (Or.inl rfl) (by decide) (lv' := [(3, (0, 56)), (0, (22, a0)), (1, (1, a1))]) rfl ?_
  refine r_sub [1, 2, 0] (lv' := [(0, (22, a0)), (1, (1, a1)), (3, (0, 56))]) rfl ?_
  exact lp_ok (w := fun (q : hH × Int) => Wq p l e R s m args below meth c D G A H0 true n0 M_X12_spells x 0 0 3 [(0, (22, a0)), (1, (1, a1)), (3, (0, q.2))] [] (q.1)) (K := K) (fun ⟨q0, q1⟩ r h1 h2 => oX12_spells_s3 (K := Sum.elim (fun (q : hH × Int) => Wq p l e R s m args below meth c D G A H0 true n0 M_X12_spells x 0 0 3 [(0, (22, a0)), (1, (1, a1)), (3, (0, q.2))] [] (q.1)) (K)) (fun r z => k0 r z) (fun _ _ z => z) h1 h2) hr hk
end M_X12_spells
theorem oX12_spells {l : Launch} {D : va_G} {G : gG} {h : hH} {a0 a1 : Int} {r : hH} (hr : fX12_spells h a0 a1 = some r) : Ctr l D G true yX12_spells M_X12_spells [(22, a0), (1, a1)] h (none, r) :=
  Ctr_of (by decide) rfl (fun z => by cases z) (nl rfl) (fun {p e R s m args below meth c A H0} => by
    exact oX12_spells_b0 (K := fun z9 => z9 = r) (fun r9 z => by rw [z]) hr rfl)
/-! X12_laysNumber -/
theorem dX12_laysNumber_0 : decode cX12_laysNumber 0 = .ok (.aload_n 0, 1) := by decide +kernel
theorem dX12_laysNumber_1 : decode cX12_laysNumber 1 = .ok (.bipush 32, 2) := by decide +kernel
theorem dX12_laysNumber_3 : decode cX12_laysNumber 3 = .ok (.invokevirtual 516, 3) := by decide +kernel
theorem dX12_laysNumber_6 : decode cX12_laysNumber 6 = .ok (.iload_n 1, 1) := by decide +kernel
theorem dX12_laysNumber_7 : decode cX12_laysNumber 7 = .ok (.ifCond .ge 10, 3) := by decide +kernel
theorem dX12_laysNumber_10 : decode cX12_laysNumber 10 = .ok (.aload_n 0, 1) := by decide +kernel
theorem dX12_laysNumber_11 : decode cX12_laysNumber 11 = .ok (.bipush 45, 2) := by decide +kernel
theorem dX12_laysNumber_13 : decode cX12_laysNumber 13 = .ok (.invokevirtual 516, 3) := by decide +kernel
theorem dX12_laysNumber_16 : decode cX12_laysNumber 16 = .ok (.return_, 1) := by decide +kernel
theorem dX12_laysNumber_17 : decode cX12_laysNumber 17 = .ok (.iload_n 1, 1) := by decide +kernel
theorem dX12_laysNumber_18 : decode cX12_laysNumber 18 = .ok (.bipush 9, 2) := by decide +kernel
theorem dX12_laysNumber_20 : decode cX12_laysNumber 20 = .ok (.if_icmp .le 14, 3) := by decide +kernel
theorem dX12_laysNumber_23 : decode cX12_laysNumber 23 = .ok (.aload_n 0, 1) := by decide +kernel
theorem dX12_laysNumber_24 : decode cX12_laysNumber 24 = .ok (.bipush 48, 2) := by decide +kernel
theorem dX12_laysNumber_26 : decode cX12_laysNumber 26 = .ok (.iload_n 1, 1) := by decide +kernel
theorem dX12_laysNumber_27 : decode cX12_laysNumber 27 = .ok (.bipush 10, 2) := by decide +kernel
theorem dX12_laysNumber_29 : decode cX12_laysNumber 29 = .ok (.idiv, 1) := by decide +kernel
theorem dX12_laysNumber_30 : decode cX12_laysNumber 30 = .ok (.iadd, 1) := by decide +kernel
theorem dX12_laysNumber_31 : decode cX12_laysNumber 31 = .ok (.invokevirtual 516, 3) := by decide +kernel
theorem dX12_laysNumber_34 : decode cX12_laysNumber 34 = .ok (.aload_n 0, 1) := by decide +kernel
theorem dX12_laysNumber_35 : decode cX12_laysNumber 35 = .ok (.bipush 48, 2) := by decide +kernel
theorem dX12_laysNumber_37 : decode cX12_laysNumber 37 = .ok (.iload_n 1, 1) := by decide +kernel
theorem dX12_laysNumber_38 : decode cX12_laysNumber 38 = .ok (.bipush 10, 2) := by decide +kernel
theorem dX12_laysNumber_40 : decode cX12_laysNumber 40 = .ok (.irem, 1) := by decide +kernel
theorem dX12_laysNumber_41 : decode cX12_laysNumber 41 = .ok (.iadd, 1) := by decide +kernel
theorem dX12_laysNumber_42 : decode cX12_laysNumber 42 = .ok (.invokevirtual 516, 3) := by decide +kernel
theorem dX12_laysNumber_45 : decode cX12_laysNumber 45 = .ok (.return_, 1) := by decide +kernel
abbrev M_X12_laysNumber : mM := (cX12_laysNumber, 2, RX12, none, false, 1, 21, 0, 0)
theorem gX12_laysNumber : cI yX12_laysNumber M_X12_laysNumber 1 := ⟨(wsl_62 _ (List.mem_of_getElem? (i := 23) rfl)), (wsl_63 _ (List.mem_of_getElem? (i := 0) rfl)), (wsl_1 _ (List.mem_of_getElem? (i := 5) rfl)), (wsl_63 _ (List.mem_of_getElem? (i := 1) rfl)), by decide +kernel⟩
noncomputable def fX12_laysNumber_b34 (h : hH) (a0 a1 : Int) : Option (hH) :=
  (gdz 10).bind fun _ =>
  (fX12_lays h a0 (w32 (48 + (irmD a1 10)))).bind fun h42 =>
  some h42
noncomputable def fX12_laysNumber (h : hH) (a0 a1 : Int) : Option (hH) :=
  (fX12_lays h a0 32).bind fun h3 =>
  if a1 < 0 then
    (fX12_lays h3 a0 45).bind fun h13 =>
    some h13
  else
    if 9 < a1 then
      (gdz 10).bind fun _ =>
      (fX12_lays h3 a0 (w32 (48 + (idvD a1 10)))).bind fun h31 =>
      fX12_laysNumber_b34 h31 a0 a1
    else
      fX12_laysNumber_b34 h3 a0 a1
section M_X12_laysNumber
variable {p : Program} {l : Launch} {e : Env} {R : Room} {s : State} {m : MethodId} {args : Array Value} {below : List Frame} {meth : Method} {c : Code} {D : va_G} {G : gG} {A : Nat → Prop} {H0 : Heap} {n0 : Int} {x : Option vV × hH} {h : hH}
set_option maxRecDepth 100000 in
set_option maxHeartbeats 4000000 in
theorem oX12_laysNumber_b34 {a0 a1 : Int} {K : hH → Prop} (k0 : ∀ r, K (r) → x = (none, r)) {r : hH} (hr : fX12_laysNumber_b34 h a0 a1 = some r) (hk : K r) : Wq p l e R s m args below meth c D G A H0 true n0 M_X12_laysNumber x 0 0 34 [(0, (22, a0)), (1, (0, a1))] [] h := by
  unfold fX12_laysNumber_b34 at hr
  refine r_aload_n dX12_laysNumber_34 rfl 0 rfl (nl rfl) ?_
  refine r_bipush dX12_laysNumber_35 (by decide) (by decide) ?_
  refine r_iload_n dX12_laysNumber_37 rfl 1 rfl (Or.inl rfl) ?_
  refine r_bipush dX12_laysNumber_38 (by decide) (by decide) ?_
  obtain ⟨z40, hg40, hr⟩ := bnd hr
  refine r_irem' dX12_laysNumber_40 hg40 ?_
  refine r_iadd dX12_laysNumber_41 ?_
  obtain ⟨h42, hg42, hr⟩ := bnd hr
  refine k_V (ci := 12) (o := a0) (T := TX12) (as := [(0, w32 (48 + (irmD a1 10)))]) (rest := []) (X := (none, h42)) (oX12_lays hg42) gX12_lays rfl (by decide) rfl (wsl_62 _ (List.mem_of_getElem? (i := 18) rfl)) rfl dX12_laysNumber_42 rfl ?_
  obtain rfl := Option.some.inj hr
  exact r_vret dX12_laysNumber_45 rfl (k0 _ hk) ⟨rfl, rfl⟩
set_option maxRecDepth 100000 in
set_option maxHeartbeats 4000000 in
theorem oX12_laysNumber_b0 {a0 a1 : Int} {K : hH → Prop} (k0 : ∀ r, K (r) → x = (none, r)) {r : hH} (hr : fX12_laysNumber h a0 a1 = some r) (hk : K r) : Wq p l e R s m args below meth c D G A H0 true n0 M_X12_laysNumber x 0 0 0 [(0, (22, a0)), (1, (0, a1))] [] h := by
  unfold fX12_laysNumber at hr
  refine r_aload_n dX12_laysNumber_0 rfl 0 rfl (nl rfl) ?_
  refine r_bipush dX12_laysNumber_1 (by decide) (by decide) ?_
  obtain ⟨h3, hg3, hr⟩ := bnd hr
  refine k_V (ci := 12) (o := a0) (T := TX12) (as := [(0, 32)]) (rest := []) (X := (none, h3)) (oX12_lays hg3) gX12_lays rfl (by decide) rfl (wsl_62 _ (List.mem_of_getElem? (i := 18) rfl)) rfl dX12_laysNumber_3 rfl ?_
  refine r_iload_n dX12_laysNumber_6 rfl 1 rfl (Or.inl rfl) ?_
  refine r_if_ge dX12_laysNumber_7 (tgt := 17) (by decide) (fun hc => ?_) (fun hc => ?_)
  · have hr := ifn hr hc
    refine r_iload_n dX12_laysNumber_17 rfl 1 rfl (Or.inl rfl) ?_
    refine r_bipush dX12_laysNumber_18 (by decide) (by decide) ?_
    refine r_icmp_le dX12_laysNumber_20 (tgt := 34) (by decide) (fun hc => ?_) (fun hc => ?_)
    · have hr := ifn hr hc
      exact oX12_laysNumber_b34 (K := K) (fun r z => k0 r z) hr hk
    · have hr := ifp hr hc
      refine r_aload_n dX12_laysNumber_23 rfl 0 rfl (nl rfl) ?_
      refine r_bipush dX12_laysNumber_24 (by decide) (by decide) ?_
      refine r_iload_n dX12_laysNumber_26 rfl 1 rfl (Or.inl rfl) ?_
      refine r_bipush dX12_laysNumber_27 (by decide) (by decide) ?_
      obtain ⟨z29, hg29, hr⟩ := bnd hr
      refine r_idiv' dX12_laysNumber_29 hg29 ?_
      refine r_iadd dX12_laysNumber_30 ?_
      obtain ⟨h31, hg31, hr⟩ := bnd hr
      refine k_V (ci := 12) (o := a0) (T := TX12) (as := [(0, w32 (48 + (idvD a1 10)))]) (rest := []) (X := (none, h31)) (oX12_lays hg31) gX12_lays rfl (by decide) rfl (wsl_62 _ (List.mem_of_getElem? (i := 18) rfl)) rfl dX12_laysNumber_31 rfl ?_
      exact oX12_laysNumber_b34 (K := K) (fun r z => k0 r z) hr hk
  · have hr := ifp hr hc
    refine r_aload_n dX12_laysNumber_10 rfl 0 rfl (nl rfl) ?_
    refine r_bipush dX12_laysNumber_11 (by decide) (by decide) ?_
    obtain ⟨h13, hg13, hr⟩ := bnd hr
    refine k_V (ci := 12) (o := a0) (T := TX12) (as := [(0, 45)]) (rest := []) (X := (none, h13)) (oX12_lays hg13) gX12_lays rfl (by decide) rfl (wsl_62 _ (List.mem_of_getElem? (i := 18) rfl)) rfl dX12_laysNumber_13 rfl ?_
    obtain rfl := Option.some.inj hr
    exact r_vret dX12_laysNumber_16 rfl (k0 _ hk) ⟨rfl, rfl⟩
end M_X12_laysNumber
theorem oX12_laysNumber {l : Launch} {D : va_G} {G : gG} {h : hH} {a0 a1 : Int} {r : hH} (hr : fX12_laysNumber h a0 a1 = some r) : Ctr l D G true yX12_laysNumber M_X12_laysNumber [(22, a0), (0, a1)] h (none, r) :=
  Ctr_of (by decide) rfl (fun z => by cases z) (nl rfl) (fun {p e R s m args below meth c A H0} => by
    exact oX12_laysNumber_b0 (K := fun z9 => z9 = r) (fun r9 z => by rw [z]) hr rfl)
/-! X12_tag -/
theorem dX12_tag_0 : decode cX12_tag 0 = .ok (.aload_n 0, 1) := by decide +kernel
theorem dX12_tag_1 : decode cX12_tag 1 = .ok (.iconst 0, 1) := by decide +kernel
theorem dX12_tag_2 : decode cX12_tag 2 = .ok (.putfield 1, 3) := by decide +kernel
theorem dX12_tag_5 : decode cX12_tag 5 = .ok (.aload_n 0, 1) := by decide +kernel
theorem dX12_tag_6 : decode cX12_tag 6 = .ok (.iload_n 1, 1) := by decide +kernel
theorem dX12_tag_7 : decode cX12_tag 7 = .ok (.invokevirtual 489, 3) := by decide +kernel
theorem dX12_tag_10 : decode cX12_tag 10 = .ok (.ifCond .ne 5, 3) := by decide +kernel
theorem dX12_tag_13 : decode cX12_tag 13 = .ok (.iconst (-1), 1) := by decide +kernel
theorem dX12_tag_14 : decode cX12_tag 14 = .ok (.ireturn, 1) := by decide +kernel
theorem dX12_tag_15 : decode cX12_tag 15 = .ok (.aload_n 0, 1) := by decide +kernel
theorem dX12_tag_16 : decode cX12_tag 16 = .ok (.iconst 0, 1) := by decide +kernel
theorem dX12_tag_17 : decode cX12_tag 17 = .ok (.putfield 511, 3) := by decide +kernel
theorem dX12_tag_20 : decode cX12_tag 20 = .ok (.aload_n 0, 1) := by decide +kernel
theorem dX12_tag_21 : decode cX12_tag 21 = .ok (.aload_n 0, 1) := by decide +kernel
theorem dX12_tag_22 : decode cX12_tag 22 = .ok (.getfield 46, 3) := by decide +kernel
theorem dX12_tag_25 : decode cX12_tag 25 = .ok (.aload_n 0, 1) := by decide +kernel
theorem dX12_tag_26 : decode cX12_tag 26 = .ok (.getfield 33, 3) := by decide +kernel
theorem dX12_tag_29 : decode cX12_tag 29 = .ok (.sipush 249, 3) := by decide +kernel
theorem dX12_tag_32 : decode cX12_tag 32 = .ok (.iload_n 1, 1) := by decide +kernel
theorem dX12_tag_33 : decode cX12_tag 33 = .ok (.iadd, 1) := by decide +kernel
theorem dX12_tag_34 : decode cX12_tag 34 = .ok (.iaload, 1) := by decide +kernel
theorem dX12_tag_35 : decode cX12_tag 35 = .ok (.laload, 1) := by decide +kernel
theorem dX12_tag_36 : decode cX12_tag 36 = .ok (.invokevirtual 519, 3) := by decide +kernel
theorem dX12_tag_39 : decode cX12_tag 39 = .ok (.aload_n 0, 1) := by decide +kernel
theorem dX12_tag_40 : decode cX12_tag 40 = .ok (.iload_n 1, 1) := by decide +kernel
theorem dX12_tag_41 : decode cX12_tag 41 = .ok (.invokevirtual 523, 3) := by decide +kernel
theorem dX12_tag_44 : decode cX12_tag 44 = .ok (.iconst 0, 1) := by decide +kernel
theorem dX12_tag_45 : decode cX12_tag 45 = .ok (.istore_n 2, 1) := by decide +kernel
theorem dX12_tag_46 : decode cX12_tag 46 = .ok (.iload_n 2, 1) := by decide +kernel
theorem dX12_tag_47 : decode cX12_tag 47 = .ok (.aload_n 0, 1) := by decide +kernel
theorem dX12_tag_48 : decode cX12_tag 48 = .ok (.getfield 33, 3) := by decide +kernel
theorem dX12_tag_51 : decode cX12_tag 51 = .ok (.iconst 4, 1) := by decide +kernel
theorem dX12_tag_52 : decode cX12_tag 52 = .ok (.aload_n 0, 1) := by decide +kernel
theorem dX12_tag_53 : decode cX12_tag 53 = .ok (.getfield 33, 3) := by decide +kernel
theorem dX12_tag_56 : decode cX12_tag 56 = .ok (.sipush 249, 3) := by decide +kernel
theorem dX12_tag_59 : decode cX12_tag 59 = .ok (.iload_n 1, 1) := by decide +kernel
theorem dX12_tag_60 : decode cX12_tag 60 = .ok (.iadd, 1) := by decide +kernel
theorem dX12_tag_61 : decode cX12_tag 61 = .ok (.iaload, 1) := by decide +kernel
theorem dX12_tag_62 : decode cX12_tag 62 = .ok (.iadd, 1) := by decide +kernel
theorem dX12_tag_63 : decode cX12_tag 63 = .ok (.iaload, 1) := by decide +kernel
theorem dX12_tag_64 : decode cX12_tag 64 = .ok (.if_icmp .ge 19, 3) := by decide +kernel
theorem dX12_tag_67 : decode cX12_tag 67 = .ok (.aload_n 0, 1) := by decide +kernel
theorem dX12_tag_68 : decode cX12_tag 68 = .ok (.aload_n 0, 1) := by decide +kernel
theorem dX12_tag_69 : decode cX12_tag 69 = .ok (.iload_n 1, 1) := by decide +kernel
theorem dX12_tag_70 : decode cX12_tag 70 = .ok (.iload_n 2, 1) := by decide +kernel
theorem dX12_tag_71 : decode cX12_tag 71 = .ok (.invokevirtual 320, 3) := by decide +kernel
theorem dX12_tag_74 : decode cX12_tag 74 = .ok (.invokevirtual 523, 3) := by decide +kernel
theorem dX12_tag_77 : decode cX12_tag 77 = .ok (.iinc 2 1, 3) := by decide +kernel
theorem dX12_tag_80 : decode cX12_tag 80 = .ok (.goto (-34), 3) := by decide +kernel
theorem dX12_tag_83 : decode cX12_tag 83 = .ok (.aload_n 0, 1) := by decide +kernel
theorem dX12_tag_84 : decode cX12_tag 84 = .ok (.getfield 511, 3) := by decide +kernel
theorem dX12_tag_87 : decode cX12_tag 87 = .ok (.ireturn, 1) := by decide +kernel
abbrev M_X12_tag : mM := (cX12_tag, 3, RX12, some .int, false, 2, 44, 0, 0)
theorem gX12_tag : cI yX12_tag M_X12_tag 1 := ⟨(wsl_62 _ (List.mem_of_getElem? (i := 9) rfl)), (wsl_62 _ (List.mem_of_getElem? (i := 10) rfl)), (wsl_1 _ (List.mem_of_getElem? (i := 5) rfl)), (wsl_62 _ (List.mem_of_getElem? (i := 11) rfl)), by decide +kernel⟩
noncomputable def fX12_tag_s46 (h0 : hH) (a0 a1 : Int) : hH × Int → Option ((hH × Int) ⊕ (Int × hH)) := fun (h, l2) =>
  (aget h (h a0 6) (w32 (249 + a1))).bind fun v61 =>
  (aget h (h a0 6) (w32 (4 + v61))).bind fun v63 =>
  if l2 < v63 then
    (fX12_cellOf h a0 a1 l2).bind fun r71 =>
    (fX12_laysNumber h a0 r71).bind fun h74 =>
    some (.inl (h74, w32 (l2 + 1)))
  else
    some (.inr ((h a0 50, h)))
noncomputable def fX12_tag (h : hH) (a0 a1 : Int) : Option (Int × hH) :=
  (pput h a0 0 0).bind fun h2 =>
  (fX12_isRow h2 a0 a1).bind fun r7 =>
  if r7 = 0 then
    some (-1, h2)
  else
    (pput h2 a0 50 0).bind fun h17 =>
    (aget h17 (h17 a0 6) (w32 (249 + a1))).bind fun v34 =>
    (aget h17 (h17 a0 10) v34).bind fun v35 =>
    (fX12_spells h17 a0 v35).bind fun h36 =>
    (fX12_laysNumber h36 a0 a1).bind fun h41 =>
    lpO (fX12_tag_s46 h41 a0 a1) (h41, 0)
section M_X12_tag
variable {p : Program} {l : Launch} {e : Env} {R : Room} {s : State} {m : MethodId} {args : Array Value} {below : List Frame} {meth : Method} {c : Code} {D : va_G} {G : gG} {A : Nat → Prop} {H0 : Heap} {n0 : Int} {x : Option vV × hH} {h : hH}
set_option maxRecDepth 100000 in
set_option maxHeartbeats 4000000 in
theorem oX12_tag_s46 {h0 : hH} {a0 a1 l2 : Int} {K : (hH × Int) ⊕ (Int × hH) → Prop} (k0 : ∀ r, K (.inr (r)) → x = (some (0, r.1), r.2)) (k1 : ∀ (h : hH) (l2 : Int), K (.inl (h, l2)) → Wq p l e R s m args below meth c D G A H0 true n0 M_X12_tag x 0 0 46 [(0, (22, a0)), (1, (0, a1)), (2, (0, l2))] [] h) {r : (hH × Int) ⊕ (Int × hH)} (hr : fX12_tag_s46 h0 a0 a1 (h, l2) = some r) (hk : K r) : Wq p l e R s m args below meth c D G A H0 true n0 M_X12_tag x 0 0 46 [(0, (22, a0)), (1, (0, a1)), (2, (0, l2))] [] h := by
  unfold fX12_tag_s46 at hr
  refine r_iload_n dX12_tag_46 rfl 2 rfl (Or.inl rfl) ?_
  refine r_aload_n dX12_tag_47 rfl 0 rfl (nl rfl) ?_
  refine r_get 12 6 (o := a0) (w := (50, h a0 6)) (T := TX12) (ref := "FollowingRefsModel") rfl (by decide) rfl (by decide) inlX12 (wsl_7 _ (List.mem_of_getElem? (i := 8) rfl)) rfl dX12_tag_48 rfl ?_
  refine r_iconst dX12_tag_51 (by decide) ?_
  refine r_aload_n dX12_tag_52 rfl 0 rfl (nl rfl) ?_
  refine r_get 12 6 (o := a0) (w := (50, h a0 6)) (T := TX12) (ref := "FollowingRefsModel") rfl (by decide) rfl (by decide) inlX12 (wsl_7 _ (List.mem_of_getElem? (i := 8) rfl)) rfl dX12_tag_53 rfl ?_
  refine r_sipush dX12_tag_56 (by decide) (by decide) ?_
  refine r_iload_n dX12_tag_59 rfl 1 rfl (Or.inl rfl) ?_
  refine r_iadd dX12_tag_60 ?_
  obtain ⟨v61, hg61, hr⟩ := bnd hr
  refine r_iald dX12_tag_61 hg61 ?_
  refine r_iadd dX12_tag_62 ?_
  obtain ⟨v63, hg63, hr⟩ := bnd hr
  refine r_iald dX12_tag_63 hg63 ?_
  refine r_icmp_ge dX12_tag_64 (tgt := 83) (by decide) (fun hc => ?_) (fun hc => ?_)
  · have hr := ifn hr hc
    refine r_aload_n dX12_tag_83 rfl 0 rfl (nl rfl) ?_
    refine r_get 12 50 (o := a0) (w := (0, h a0 50)) (T := TX12) (ref := "FollowingRefsModel") rfl (by decide) rfl (by decide) inlX12 (wsl_62 _ (List.mem_of_getElem? (i := 12) rfl)) rfl dX12_tag_84 rfl ?_
    obtain rfl := Option.some.inj hr
    exact r_ret dX12_tag_87 rfl (Or.inl ⟨rfl, rfl⟩) (k0 _ hk) ⟨rfl, rfl⟩
  · have hr := ifp hr hc
    refine r_aload_n dX12_tag_67 rfl 0 rfl (nl rfl) ?_
    refine r_aload_n dX12_tag_68 rfl 0 rfl (nl rfl) ?_
    refine r_iload_n dX12_tag_69 rfl 1 rfl (Or.inl rfl) ?_
    refine r_iload_n dX12_tag_70 rfl 2 rfl (Or.inl rfl) ?_
    obtain ⟨r71, hg71, hr⟩ := bnd hr
    refine k_V (ci := 12) (o := a0) (T := TX12) (as := [(0, a1), (0, l2)]) (rest := [(22, a0)]) (X := (some (0, r71), h)) (oX12_cellOf hg71) gX12_cellOf rfl (by decide) rfl (wsl_42 _ (List.mem_of_getElem? (i := 17) rfl)) rfl dX12_tag_71 rfl ?_
    obtain ⟨h74, hg74, hr⟩ := bnd hr
    refine k_V (ci := 12) (o := a0) (T := TX12) (as := [(0, r71)]) (rest := []) (X := (none, h74)) (oX12_laysNumber hg74) gX12_laysNumber rfl (by decide) rfl (wsl_62 _ (List.mem_of_getElem? (i := 22) rfl)) rfl dX12_tag_74 rfl ?_
    refine r_iinc (k := 2) (v := l2) dX12_tag_77 rfl (by decide) (lv' := [(2, (0, w32 (l2 + 1))), (0, (22, a0)), (1, (0, a1))]) rfl ?_
    refine r_goto dX12_tag_80 (tgt := 46) (by decide) ?_
    refine r_sub [1, 2, 0] (lv' := [(0, (22, a0)), (1, (0, a1)), (2, (0, w32 (l2 + 1)))]) rfl ?_
    obtain rfl := Option.some.inj hr
    exact k1 _ _ hk
set_option maxRecDepth 100000 in
set_option maxHeartbeats 4000000 in
theorem oX12_tag_b0 {a0 a1 : Int} {K : Int × hH → Prop} (k0 : ∀ r, K (r) → x = (some (0, r.1), r.2)) {r : Int × hH} (hr : fX12_tag h a0 a1 = some r) (hk : K r) : Wq p l e R s m args below meth c D G A H0 true n0 M_X12_tag x 0 0 0 [(0, (22, a0)), (1, (0, a1))] [] h := by
  unfold fX12_tag at hr
  refine r_aload_n dX12_tag_0 rfl 0 rfl (nl rfl) ?_
  refine r_iconst dX12_tag_1 (by decide) ?_
  obtain ⟨h2, hg2, hr⟩ := bnd hr
  refine r_put' 12 0 (t := 0) (ref := "FollowingRefsModel") hg2 rfl tyX12 tyX12_ok nmX12 rfl (by decide) rfl (by decide) inlX12 (wsl_10 _ (List.mem_of_getElem? (i := 11) rfl)) rfl rfl (by decide +kernel) (by decide) rfl (Or.inl ⟨rfl, rfl⟩) dX12_tag_2 ?_
  refine r_aload_n dX12_tag_5 rfl 0 rfl (nl rfl) ?_
  refine r_iload_n dX12_tag_6 rfl 1 rfl (Or.inl rfl) ?_
  obtain ⟨r7, hg7, hr⟩ := bnd hr
  refine k_V (ci := 12) (o := a0) (T := TX12) (as := [(0, a1)]) (rest := []) (X := (some (2, r7), h2)) (oX12_isRow hg7) gX12_isRow rfl (by decide) rfl (wsl_54 _ (List.mem_of_getElem? (i := 12) rfl)) rfl dX12_tag_7 rfl ?_
  refine r_scast 0 (v := (2, r7)) (w := (0, r7)) rfl zc hTz (st' := [(0, r7)]) rfl ?_
  refine r_if_ne dX12_tag_10 (tgt := 15) (by decide) (fun hc => ?_) (fun hc => ?_)
  · have hr := ifn hr hc
    refine r_aload_n dX12_tag_15 rfl 0 rfl (nl rfl) ?_
    refine r_iconst dX12_tag_16 (by decide) ?_
    obtain ⟨h17, hg17, hr⟩ := bnd hr
    refine r_put' 12 50 (t := 0) (ref := "FollowingRefsModel") hg17 rfl tyX12 tyX12_ok nmX12 rfl (by decide) rfl (by decide) inlX12 (wsl_62 _ (List.mem_of_getElem? (i := 12) rfl)) rfl rfl (by decide +kernel) (by decide) rfl (Or.inl ⟨rfl, rfl⟩) dX12_tag_17 ?_
    refine r_aload_n dX12_tag_20 rfl 0 rfl (nl rfl) ?_
    refine r_aload_n dX12_tag_21 rfl 0 rfl (nl rfl) ?_
    refine r_get 12 10 (o := a0) (w := (51, h17 a0 10)) (T := TX12) (ref := "FollowingRefsModel") rfl (by decide) rfl (by decide) inlX12 (wsl_7 _ (List.mem_of_getElem? (i := 12) rfl)) rfl dX12_tag_22 rfl ?_
    refine r_aload_n dX12_tag_25 rfl 0 rfl (nl rfl) ?_
    refine r_get 12 6 (o := a0) (w := (50, h17 a0 6)) (T := TX12) (ref := "FollowingRefsModel") rfl (by decide) rfl (by decide) inlX12 (wsl_7 _ (List.mem_of_getElem? (i := 8) rfl)) rfl dX12_tag_26 rfl ?_
    refine r_sipush dX12_tag_29 (by decide) (by decide) ?_
    refine r_iload_n dX12_tag_32 rfl 1 rfl (Or.inl rfl) ?_
    refine r_iadd dX12_tag_33 ?_
    obtain ⟨v34, hg34, hr⟩ := bnd hr
    refine r_iald dX12_tag_34 hg34 ?_
    obtain ⟨v35, hg35, hr⟩ := bnd hr
    refine r_lald dX12_tag_35 hg35 ?_
    obtain ⟨h36, hg36, hr⟩ := bnd hr
    refine k_V (ci := 12) (o := a0) (T := TX12) (as := [(1, v35)]) (rest := []) (X := (none, h36)) (oX12_spells hg36) gX12_spells rfl (by decide) rfl (wsl_62 _ (List.mem_of_getElem? (i := 13) rfl)) rfl dX12_tag_36 rfl ?_
    refine r_aload_n dX12_tag_39 rfl 0 rfl (nl rfl) ?_
    refine r_iload_n dX12_tag_40 rfl 1 rfl (Or.inl rfl) ?_
    obtain ⟨h41, hg41, hr⟩ := bnd hr
    refine k_V (ci := 12) (o := a0) (T := TX12) (as := [(0, a1)]) (rest := []) (X := (none, h41)) (oX12_laysNumber hg41) gX12_laysNumber rfl (by decide) rfl (wsl_62 _ (List.mem_of_getElem? (i := 22) rfl)) rfl dX12_tag_41 rfl ?_
    refine r_iconst dX12_tag_44 (by decide) ?_
    refine r_istore_n dX12_tag_45 rfl (Or.inl rfl) (by decide) (lv' := [(2, (0, 0)), (0, (22, a0)), (1, (0, a1))]) rfl ?_
    refine r_sub [1, 2, 0] (lv' := [(0, (22, a0)), (1, (0, a1)), (2, (0, 0))]) rfl ?_
    exact lp_ok (w := fun (q : hH × Int) => Wq p l e R s m args below meth c D G A H0 true n0 M_X12_tag x 0 0 46 [(0, (22, a0)), (1, (0, a1)), (2, (0, q.2))] [] (q.1)) (K := K) (fun ⟨q0, q1⟩ r h1 h2 => oX12_tag_s46 (K := Sum.elim (fun (q : hH × Int) => Wq p l e R s m args below meth c D G A H0 true n0 M_X12_tag x 0 0 46 [(0, (22, a0)), (1, (0, a1)), (2, (0, q.2))] [] (q.1)) (K)) (fun r z => k0 r z) (fun _ _ z => z) h1 h2) hr hk
  · have hr := ifp hr hc
    refine r_iconst dX12_tag_13 (by decide) ?_
    obtain rfl := Option.some.inj hr
    exact r_ret dX12_tag_14 rfl (Or.inl ⟨rfl, rfl⟩) (k0 _ hk) ⟨rfl, rfl⟩
end M_X12_tag
theorem oX12_tag {l : Launch} {D : va_G} {G : gG} {h : hH} {a0 a1 : Int} {r : Int × hH} (hr : fX12_tag h a0 a1 = some r) : Ctr l D G true yX12_tag M_X12_tag [(22, a0), (0, a1)] h (some (0, r.1), r.2) :=
  Ctr_of (by decide) rfl (fun z => by cases z) (nl rfl) (fun {p e R s m args below meth c A H0} => by
    exact oX12_tag_b0 (K := fun z9 => z9 = r) (fun r9 z => by rw [z]) hr rfl)
/-! X12_byteAt -/
theorem dX12_byteAt_0 : decode cX12_byteAt 0 = .ok (.aload_n 0, 1) := by decide +kernel
theorem dX12_byteAt_1 : decode cX12_byteAt 1 = .ok (.iconst 0, 1) := by decide +kernel
theorem dX12_byteAt_2 : decode cX12_byteAt 2 = .ok (.putfield 1, 3) := by decide +kernel
theorem dX12_byteAt_5 : decode cX12_byteAt 5 = .ok (.iload_n 1, 1) := by decide +kernel
theorem dX12_byteAt_6 : decode cX12_byteAt 6 = .ok (.iconst 0, 1) := by decide +kernel
theorem dX12_byteAt_7 : decode cX12_byteAt 7 = .ok (.aload_n 0, 1) := by decide +kernel
theorem dX12_byteAt_8 : decode cX12_byteAt 8 = .ok (.getfield 511, 3) := by decide +kernel
theorem dX12_byteAt_11 : decode cX12_byteAt 11 = .ok (.iconst 1, 1) := by decide +kernel
theorem dX12_byteAt_12 : decode cX12_byteAt 12 = .ok (.isub, 1) := by decide +kernel
theorem dX12_byteAt_13 : decode cX12_byteAt 13 = .ok (.invokestatic 229, 3) := by decide +kernel
theorem dX12_byteAt_16 : decode cX12_byteAt 16 = .ok (.ifCond .eq 12, 3) := by decide +kernel
theorem dX12_byteAt_19 : decode cX12_byteAt 19 = .ok (.aload_n 0, 1) := by decide +kernel
theorem dX12_byteAt_20 : decode cX12_byteAt 20 = .ok (.getfield 104, 3) := by decide +kernel
theorem dX12_byteAt_23 : decode cX12_byteAt 23 = .ok (.iload_n 1, 1) := by decide +kernel
theorem dX12_byteAt_24 : decode cX12_byteAt 24 = .ok (.baload, 1) := by decide +kernel
theorem dX12_byteAt_25 : decode cX12_byteAt 25 = .ok (.goto 4, 3) := by decide +kernel
theorem dX12_byteAt_28 : decode cX12_byteAt 28 = .ok (.iconst (-1), 1) := by decide +kernel
theorem dX12_byteAt_29 : decode cX12_byteAt 29 = .ok (.ireturn, 1) := by decide +kernel
abbrev M_X12_byteAt : mM := (cX12_byteAt, 2, RX12, some .int, false, 1, 22, 0, 0)
theorem gX12_byteAt : cI yX12_byteAt M_X12_byteAt 1 := ⟨(wsl_63 _ (List.mem_of_getElem? (i := 7) rfl)), (wsl_63 _ (List.mem_of_getElem? (i := 8) rfl)), (wsl_1 _ (List.mem_of_getElem? (i := 5) rfl)), (wsl_63 _ (List.mem_of_getElem? (i := 9) rfl)), by decide +kernel⟩
noncomputable def fX12_byteAt (h : hH) (a0 a1 : Int) : Option (Int × hH) :=
  (pput h a0 0 0).bind fun h2 =>
  (fX12_isIn h2 a1 0 (w32 ((h2 a0 50) - 1))).bind fun r13 =>
  if r13 = 0 then
    some (-1, h2)
  else
    (aget h2 (h2 a0 49) a1).bind fun v24 =>
    some (v24, h2)
section M_X12_byteAt
variable {p : Program} {l : Launch} {e : Env} {R : Room} {s : State} {m : MethodId} {args : Array Value} {below : List Frame} {meth : Method} {c : Code} {D : va_G} {G : gG} {A : Nat → Prop} {H0 : Heap} {n0 : Int} {x : Option vV × hH} {h : hH}
set_option maxRecDepth 100000 in
set_option maxHeartbeats 4000000 in
theorem oX12_byteAt_b0 {a0 a1 : Int} {K : Int × hH → Prop} (k0 : ∀ r, K (r) → x = (some (0, r.1), r.2)) {r : Int × hH} (hr : fX12_byteAt h a0 a1 = some r) (hk : K r) : Wq p l e R s m args below meth c D G A H0 true n0 M_X12_byteAt x 0 0 0 [(0, (22, a0)), (1, (0, a1))] [] h := by
  unfold fX12_byteAt at hr
  refine r_aload_n dX12_byteAt_0 rfl 0 rfl (nl rfl) ?_
  refine r_iconst dX12_byteAt_1 (by decide) ?_
  obtain ⟨h2, hg2, hr⟩ := bnd hr
  refine r_put' 12 0 (t := 0) (ref := "FollowingRefsModel") hg2 rfl tyX12 tyX12_ok nmX12 rfl (by decide) rfl (by decide) inlX12 (wsl_10 _ (List.mem_of_getElem? (i := 11) rfl)) rfl rfl (by decide +kernel) (by decide) rfl (Or.inl ⟨rfl, rfl⟩) dX12_byteAt_2 ?_
  refine r_iload_n dX12_byteAt_5 rfl 1 rfl (Or.inl rfl) ?_
  refine r_iconst dX12_byteAt_6 (by decide) ?_
  refine r_aload_n dX12_byteAt_7 rfl 0 rfl (nl rfl) ?_
  refine r_get 12 50 (o := a0) (w := (0, h2 a0 50)) (T := TX12) (ref := "FollowingRefsModel") rfl (by decide) rfl (by decide) inlX12 (wsl_62 _ (List.mem_of_getElem? (i := 12) rfl)) rfl dX12_byteAt_8 rfl ?_
  refine r_iconst dX12_byteAt_11 (by decide) ?_
  refine r_isub dX12_byteAt_12 ?_
  obtain ⟨r13, hg13, hr⟩ := bnd hr
  refine k_S (as := [(0, a1), (0, 0), (0, w32 ((h2 a0 50) - 1))]) (rest := []) (X := (some (2, r13), h2)) (oX12_isIn hg13) gX12_isIn rfl (wsl_28 _ (List.mem_of_getElem? (i := 1) rfl)) rfl dX12_byteAt_13 rfl ?_
  refine r_scast 0 (v := (2, r13)) (w := (0, r13)) rfl zc hTz (st' := [(0, r13)]) rfl ?_
  refine r_if_eq dX12_byteAt_16 (tgt := 28) (by decide) (fun hc => ?_) (fun hc => ?_)
  · have hr := ifp hr hc
    refine r_iconst dX12_byteAt_28 (by decide) ?_
    obtain rfl := Option.some.inj hr
    exact r_ret dX12_byteAt_29 rfl (Or.inl ⟨rfl, rfl⟩) (k0 _ hk) ⟨rfl, rfl⟩
  · have hr := ifn hr hc
    refine r_aload_n dX12_byteAt_19 rfl 0 rfl (nl rfl) ?_
    refine r_get 12 49 (o := a0) (w := (52, h2 a0 49)) (T := TX12) (ref := "FollowingRefsModel") rfl (by decide) rfl (by decide) inlX12 (wsl_8 _ (List.mem_of_getElem? (i := 7) rfl)) rfl dX12_byteAt_20 rfl ?_
    refine r_iload_n dX12_byteAt_23 rfl 1 rfl (Or.inl rfl) ?_
    obtain ⟨v24, hg24, hr⟩ := bnd hr
    refine r_bald dX12_byteAt_24 hg24 ?_
    refine r_goto dX12_byteAt_25 (tgt := 29) (by decide) ?_
    obtain rfl := Option.some.inj hr
    exact r_ret dX12_byteAt_29 rfl (Or.inl ⟨rfl, rfl⟩) (k0 _ hk) ⟨rfl, rfl⟩
end M_X12_byteAt
theorem oX12_byteAt {l : Launch} {D : va_G} {G : gG} {h : hH} {a0 a1 : Int} {r : Int × hH} (hr : fX12_byteAt h a0 a1 = some r) : Ctr l D G true yX12_byteAt M_X12_byteAt [(22, a0), (0, a1)] h (some (0, r.1), r.2) :=
  Ctr_of (by decide) rfl (fun z => by cases z) (nl rfl) (fun {p e R s m args below meth c A H0} => by
    exact oX12_byteAt_b0 (K := fun z9 => z9 = r) (fun r9 z => by rw [z]) hr rfl)
/-! X12_draw -/
theorem dX12_draw_0 : decode cX12_draw 0 = .ok (.aload_n 0, 1) := by decide +kernel
theorem dX12_draw_1 : decode cX12_draw 1 = .ok (.aload_n 0, 1) := by decide +kernel
theorem dX12_draw_2 : decode cX12_draw 2 = .ok (.getfield 526, 3) := by decide +kernel
theorem dX12_draw_5 : decode cX12_draw 5 = .ok (.ldc_w 529, 3) := by decide +kernel
theorem dX12_draw_8 : decode cX12_draw 8 = .ok (.imul, 1) := by decide +kernel
theorem dX12_draw_9 : decode cX12_draw 9 = .ok (.sipush 12345, 3) := by decide +kernel
theorem dX12_draw_12 : decode cX12_draw 12 = .ok (.iadd, 1) := by decide +kernel
theorem dX12_draw_13 : decode cX12_draw 13 = .ok (.putfield 526, 3) := by decide +kernel
theorem dX12_draw_16 : decode cX12_draw 16 = .ok (.aload_n 0, 1) := by decide +kernel
theorem dX12_draw_17 : decode cX12_draw 17 = .ok (.getfield 526, 3) := by decide +kernel
theorem dX12_draw_20 : decode cX12_draw 20 = .ok (.bipush 8, 2) := by decide +kernel
theorem dX12_draw_22 : decode cX12_draw 22 = .ok (.iushr, 1) := by decide +kernel
theorem dX12_draw_23 : decode cX12_draw 23 = .ok (.iload_n 1, 1) := by decide +kernel
theorem dX12_draw_24 : decode cX12_draw 24 = .ok (.irem, 1) := by decide +kernel
theorem dX12_draw_25 : decode cX12_draw 25 = .ok (.ireturn, 1) := by decide +kernel
abbrev M_X12_draw : mM := (cX12_draw, 2, RX12, some .int, false, 0, 0, 0, 0)
theorem gX12_draw : cI yX12_draw M_X12_draw 1 := ⟨(wsl_64 _ (List.mem_of_getElem? (i := 18) rfl)), (wsl_64 _ (List.mem_of_getElem? (i := 19) rfl)), (wsl_1 _ (List.mem_of_getElem? (i := 5) rfl)), (wsl_64 _ (List.mem_of_getElem? (i := 20) rfl)), by decide +kernel⟩
noncomputable def fX12_draw (h : hH) (a0 a1 : Int) : Option (Int × hH) :=
  (pput h a0 51 (w32 ((w32 ((h a0 51) * 1103515245)) + 12345))).bind fun h13 =>
  (gdz a1).bind fun _ =>
  some (irmD (iusD (h13 a0 51) 8) a1, h13)
section M_X12_draw
variable {p : Program} {l : Launch} {e : Env} {R : Room} {s : State} {m : MethodId} {args : Array Value} {below : List Frame} {meth : Method} {c : Code} {D : va_G} {G : gG} {A : Nat → Prop} {H0 : Heap} {n0 : Int} {x : Option vV × hH} {h : hH}
set_option maxRecDepth 100000 in
set_option maxHeartbeats 4000000 in
theorem oX12_draw_b0 {a0 a1 : Int} {K : Int × hH → Prop} (k0 : ∀ r, K (r) → x = (some (0, r.1), r.2)) {r : Int × hH} (hr : fX12_draw h a0 a1 = some r) (hk : K r) : Wq p l e R s m args below meth c D G A H0 true n0 M_X12_draw x 0 0 0 [(0, (22, a0)), (1, (0, a1))] [] h := by
  unfold fX12_draw at hr
  refine r_aload_n dX12_draw_0 rfl 0 rfl (nl rfl) ?_
  refine r_aload_n dX12_draw_1 rfl 0 rfl (nl rfl) ?_
  refine r_get 12 51 (o := a0) (w := (0, h a0 51)) (T := TX12) (ref := "FollowingRefsModel") rfl (by decide) rfl (by decide) inlX12 (wsl_64 _ (List.mem_of_getElem? (i := 12) rfl)) rfl dX12_draw_2 rfl ?_
  refine r_ldcw (v := 1103515245) dX12_draw_5 (by decide) (wsl_64 _ (List.mem_of_getElem? (i := 21) rfl)) ?_
  refine r_imul dX12_draw_8 ?_
  refine r_sipush dX12_draw_9 (by decide) (by decide) ?_
  refine r_iadd dX12_draw_12 ?_
  obtain ⟨h13, hg13, hr⟩ := bnd hr
  refine r_put' 12 51 (t := 0) (ref := "FollowingRefsModel") hg13 rfl tyX12 tyX12_ok nmX12 rfl (by decide) rfl (by decide) inlX12 (wsl_64 _ (List.mem_of_getElem? (i := 12) rfl)) rfl rfl (by decide +kernel) (by decide) rfl (Or.inl ⟨rfl, rfl⟩) dX12_draw_13 ?_
  refine r_aload_n dX12_draw_16 rfl 0 rfl (nl rfl) ?_
  refine r_get 12 51 (o := a0) (w := (0, h13 a0 51)) (T := TX12) (ref := "FollowingRefsModel") rfl (by decide) rfl (by decide) inlX12 (wsl_64 _ (List.mem_of_getElem? (i := 12) rfl)) rfl dX12_draw_17 rfl ?_
  refine r_bipush dX12_draw_20 (by decide) (by decide) ?_
  refine r_iushr dX12_draw_22 ?_
  refine r_iload_n dX12_draw_23 rfl 1 rfl (Or.inl rfl) ?_
  obtain ⟨z24, hg24, hr⟩ := bnd hr
  refine r_irem' dX12_draw_24 hg24 ?_
  obtain rfl := Option.some.inj hr
  exact r_ret dX12_draw_25 rfl (Or.inl ⟨rfl, rfl⟩) (k0 _ hk) ⟨rfl, rfl⟩
end M_X12_draw
theorem oX12_draw {l : Launch} {D : va_G} {G : gG} {h : hH} {a0 a1 : Int} {r : Int × hH} (hr : fX12_draw h a0 a1 = some r) : Ctr l D G true yX12_draw M_X12_draw [(22, a0), (0, a1)] h (some (0, r.1), r.2) :=
  Ctr_of (by decide) rfl (fun z => by cases z) (nl rfl) (fun {p e R s m args below meth c A H0} => by
    exact oX12_draw_b0 (K := fun z9 => z9 = r) (fun r9 z => by rw [z]) hr rfl)
/-! X12_drawsLine -/
theorem dX12_drawsLine_0 : decode cX12_drawsLine 0 = .ok (.aload_n 0, 1) := by decide +kernel
theorem dX12_drawsLine_1 : decode cX12_drawsLine 1 = .ok (.getfield 43, 3) := by decide +kernel
theorem dX12_drawsLine_4 : decode cX12_drawsLine 4 = .ok (.iconst 1, 1) := by decide +kernel
theorem dX12_drawsLine_5 : decode cX12_drawsLine 5 = .ok (.iload_n 2, 1) := by decide +kernel
theorem dX12_drawsLine_6 : decode cX12_drawsLine 6 = .ok (.iastore, 1) := by decide +kernel
theorem dX12_drawsLine_7 : decode cX12_drawsLine 7 = .ok (.aload_n 0, 1) := by decide +kernel
theorem dX12_drawsLine_8 : decode cX12_drawsLine 8 = .ok (.getfield 43, 3) := by decide +kernel
theorem dX12_drawsLine_11 : decode cX12_drawsLine 11 = .ok (.iconst 2, 1) := by decide +kernel
theorem dX12_drawsLine_12 : decode cX12_drawsLine 12 = .ok (.iconst 0, 1) := by decide +kernel
theorem dX12_drawsLine_13 : decode cX12_drawsLine 13 = .ok (.iastore, 1) := by decide +kernel
theorem dX12_drawsLine_14 : decode cX12_drawsLine 14 = .ok (.aload_n 0, 1) := by decide +kernel
theorem dX12_drawsLine_15 : decode cX12_drawsLine 15 = .ok (.getfield 43, 3) := by decide +kernel
theorem dX12_drawsLine_18 : decode cX12_drawsLine 18 = .ok (.bipush 7, 2) := by decide +kernel
theorem dX12_drawsLine_20 : decode cX12_drawsLine 20 = .ok (.iconst 0, 1) := by decide +kernel
theorem dX12_drawsLine_21 : decode cX12_drawsLine 21 = .ok (.iastore, 1) := by decide +kernel
theorem dX12_drawsLine_22 : decode cX12_drawsLine 22 = .ok (.aload_n 0, 1) := by decide +kernel
theorem dX12_drawsLine_23 : decode cX12_drawsLine 23 = .ok (.getfield 43, 3) := by decide +kernel
theorem dX12_drawsLine_26 : decode cX12_drawsLine 26 = .ok (.iconst 0, 1) := by decide +kernel
theorem dX12_drawsLine_27 : decode cX12_drawsLine 27 = .ok (.iload_n 1, 1) := by decide +kernel
theorem dX12_drawsLine_28 : decode cX12_drawsLine 28 = .ok (.iconst 3, 1) := by decide +kernel
theorem dX12_drawsLine_29 : decode cX12_drawsLine 29 = .ok (.if_icmp .ge 7, 3) := by decide +kernel
theorem dX12_drawsLine_32 : decode cX12_drawsLine 32 = .ok (.iconst 0, 1) := by decide +kernel
theorem dX12_drawsLine_33 : decode cX12_drawsLine 33 = .ok (.goto 6, 3) := by decide +kernel
theorem dX12_drawsLine_36 : decode cX12_drawsLine 36 = .ok (.iload_n 1, 1) := by decide +kernel
theorem dX12_drawsLine_37 : decode cX12_drawsLine 37 = .ok (.iconst 2, 1) := by decide +kernel
theorem dX12_drawsLine_38 : decode cX12_drawsLine 38 = .ok (.isub, 1) := by decide +kernel
theorem dX12_drawsLine_39 : decode cX12_drawsLine 39 = .ok (.iastore, 1) := by decide +kernel
theorem dX12_drawsLine_40 : decode cX12_drawsLine 40 = .ok (.iload_n 1, 1) := by decide +kernel
theorem dX12_drawsLine_41 : decode cX12_drawsLine 41 = .ok (.iconst 3, 1) := by decide +kernel
theorem dX12_drawsLine_42 : decode cX12_drawsLine 42 = .ok (.if_icmp .ge 51, 3) := by decide +kernel
theorem dX12_drawsLine_45 : decode cX12_drawsLine 45 = .ok (.iconst 0, 1) := by decide +kernel
theorem dX12_drawsLine_46 : decode cX12_drawsLine 46 = .ok (.istore_n 3, 1) := by decide +kernel
theorem dX12_drawsLine_47 : decode cX12_drawsLine 47 = .ok (.iload_n 3, 1) := by decide +kernel
theorem dX12_drawsLine_48 : decode cX12_drawsLine 48 = .ok (.aload_n 0, 1) := by decide +kernel
theorem dX12_drawsLine_49 : decode cX12_drawsLine 49 = .ok (.getfield 33, 3) := by decide +kernel
theorem dX12_drawsLine_52 : decode cX12_drawsLine 52 = .ok (.iconst 4, 1) := by decide +kernel
theorem dX12_drawsLine_53 : decode cX12_drawsLine 53 = .ok (.iload_n 2, 1) := by decide +kernel
theorem dX12_drawsLine_54 : decode cX12_drawsLine 54 = .ok (.iadd, 1) := by decide +kernel
theorem dX12_drawsLine_55 : decode cX12_drawsLine 55 = .ok (.iaload, 1) := by decide +kernel
theorem dX12_drawsLine_56 : decode cX12_drawsLine 56 = .ok (.if_icmp .ge 36, 3) := by decide +kernel
theorem dX12_drawsLine_59 : decode cX12_drawsLine 59 = .ok (.aload_n 0, 1) := by decide +kernel
theorem dX12_drawsLine_60 : decode cX12_drawsLine 60 = .ok (.iconst 5, 1) := by decide +kernel
theorem dX12_drawsLine_61 : decode cX12_drawsLine 61 = .ok (.invokevirtual 530, 3) := by decide +kernel
theorem dX12_drawsLine_64 : decode cX12_drawsLine 64 = .ok (.istore 4, 2) := by decide +kernel
theorem dX12_drawsLine_66 : decode cX12_drawsLine 66 = .ok (.aload_n 0, 1) := by decide +kernel
theorem dX12_drawsLine_67 : decode cX12_drawsLine 67 = .ok (.getfield 43, 3) := by decide +kernel
theorem dX12_drawsLine_70 : decode cX12_drawsLine 70 = .ok (.iconst 3, 1) := by decide +kernel
theorem dX12_drawsLine_71 : decode cX12_drawsLine 71 = .ok (.iload_n 3, 1) := by decide +kernel
theorem dX12_drawsLine_72 : decode cX12_drawsLine 72 = .ok (.iadd, 1) := by decide +kernel
theorem dX12_drawsLine_73 : decode cX12_drawsLine 73 = .ok (.iload 4, 2) := by decide +kernel
theorem dX12_drawsLine_75 : decode cX12_drawsLine 75 = .ok (.iconst 4, 1) := by decide +kernel
theorem dX12_drawsLine_76 : decode cX12_drawsLine 76 = .ok (.if_icmp .ne 7, 3) := by decide +kernel
theorem dX12_drawsLine_79 : decode cX12_drawsLine 79 = .ok (.iconst (-1), 1) := by decide +kernel
theorem dX12_drawsLine_80 : decode cX12_drawsLine 80 = .ok (.goto 5, 3) := by decide +kernel
theorem dX12_drawsLine_83 : decode cX12_drawsLine 83 = .ok (.iload 4, 2) := by decide +kernel
theorem dX12_drawsLine_85 : decode cX12_drawsLine 85 = .ok (.iastore, 1) := by decide +kernel
theorem dX12_drawsLine_86 : decode cX12_drawsLine 86 = .ok (.iinc 3 1, 3) := by decide +kernel
theorem dX12_drawsLine_89 : decode cX12_drawsLine 89 = .ok (.goto (-42), 3) := by decide +kernel
theorem dX12_drawsLine_92 : decode cX12_drawsLine 92 = .ok (.return_, 1) := by decide +kernel
theorem dX12_drawsLine_93 : decode cX12_drawsLine 93 = .ok (.aload_n 0, 1) := by decide +kernel
theorem dX12_drawsLine_94 : decode cX12_drawsLine 94 = .ok (.aload_n 0, 1) := by decide +kernel
theorem dX12_drawsLine_95 : decode cX12_drawsLine 95 = .ok (.getfield 33, 3) := by decide +kernel
theorem dX12_drawsLine_98 : decode cX12_drawsLine 98 = .ok (.iconst 4, 1) := by decide +kernel
theorem dX12_drawsLine_99 : decode cX12_drawsLine 99 = .ok (.iload_n 2, 1) := by decide +kernel
theorem dX12_drawsLine_100 : decode cX12_drawsLine 100 = .ok (.iadd, 1) := by decide +kernel
theorem dX12_drawsLine_101 : decode cX12_drawsLine 101 = .ok (.iaload, 1) := by decide +kernel
theorem dX12_drawsLine_102 : decode cX12_drawsLine 102 = .ok (.invokevirtual 530, 3) := by decide +kernel
theorem dX12_drawsLine_105 : decode cX12_drawsLine 105 = .ok (.istore_n 3, 1) := by decide +kernel
theorem dX12_drawsLine_106 : decode cX12_drawsLine 106 = .ok (.aload_n 0, 1) := by decide +kernel
theorem dX12_drawsLine_107 : decode cX12_drawsLine 107 = .ok (.getfield 43, 3) := by decide +kernel
theorem dX12_drawsLine_110 : decode cX12_drawsLine 110 = .ok (.bipush 7, 2) := by decide +kernel
theorem dX12_drawsLine_112 : decode cX12_drawsLine 112 = .ok (.iconst 1, 1) := by decide +kernel
theorem dX12_drawsLine_113 : decode cX12_drawsLine 113 = .ok (.iastore, 1) := by decide +kernel
theorem dX12_drawsLine_114 : decode cX12_drawsLine 114 = .ok (.aload_n 0, 1) := by decide +kernel
theorem dX12_drawsLine_115 : decode cX12_drawsLine 115 = .ok (.getfield 43, 3) := by decide +kernel
theorem dX12_drawsLine_118 : decode cX12_drawsLine 118 = .ok (.bipush 8, 2) := by decide +kernel
theorem dX12_drawsLine_120 : decode cX12_drawsLine 120 = .ok (.iload_n 3, 1) := by decide +kernel
theorem dX12_drawsLine_121 : decode cX12_drawsLine 121 = .ok (.iastore, 1) := by decide +kernel
theorem dX12_drawsLine_122 : decode cX12_drawsLine 122 = .ok (.aload_n 0, 1) := by decide +kernel
theorem dX12_drawsLine_123 : decode cX12_drawsLine 123 = .ok (.getfield 43, 3) := by decide +kernel
theorem dX12_drawsLine_126 : decode cX12_drawsLine 126 = .ok (.bipush 9, 2) := by decide +kernel
theorem dX12_drawsLine_128 : decode cX12_drawsLine 128 = .ok (.bipush 61, 2) := by decide +kernel
theorem dX12_drawsLine_130 : decode cX12_drawsLine 130 = .ok (.iastore, 1) := by decide +kernel
theorem dX12_drawsLine_131 : decode cX12_drawsLine 131 = .ok (.aload_n 0, 1) := by decide +kernel
theorem dX12_drawsLine_132 : decode cX12_drawsLine 132 = .ok (.getfield 43, 3) := by decide +kernel
theorem dX12_drawsLine_135 : decode cX12_drawsLine 135 = .ok (.bipush 10, 2) := by decide +kernel
theorem dX12_drawsLine_137 : decode cX12_drawsLine 137 = .ok (.aload_n 0, 1) := by decide +kernel
theorem dX12_drawsLine_138 : decode cX12_drawsLine 138 = .ok (.iconst 4, 1) := by decide +kernel
theorem dX12_drawsLine_139 : decode cX12_drawsLine 139 = .ok (.invokevirtual 530, 3) := by decide +kernel
theorem dX12_drawsLine_142 : decode cX12_drawsLine 142 = .ok (.iastore, 1) := by decide +kernel
theorem dX12_drawsLine_143 : decode cX12_drawsLine 143 = .ok (.iload_n 1, 1) := by decide +kernel
theorem dX12_drawsLine_144 : decode cX12_drawsLine 144 = .ok (.iconst 3, 1) := by decide +kernel
theorem dX12_drawsLine_145 : decode cX12_drawsLine 145 = .ok (.if_icmp .ne 4, 3) := by decide +kernel
theorem dX12_drawsLine_148 : decode cX12_drawsLine 148 = .ok (.return_, 1) := by decide +kernel
theorem dX12_drawsLine_149 : decode cX12_drawsLine 149 = .ok (.aload_n 0, 1) := by decide +kernel
theorem dX12_drawsLine_150 : decode cX12_drawsLine 150 = .ok (.getfield 43, 3) := by decide +kernel
theorem dX12_drawsLine_153 : decode cX12_drawsLine 153 = .ok (.iconst 2, 1) := by decide +kernel
theorem dX12_drawsLine_154 : decode cX12_drawsLine 154 = .ok (.iconst 1, 1) := by decide +kernel
theorem dX12_drawsLine_155 : decode cX12_drawsLine 155 = .ok (.iastore, 1) := by decide +kernel
theorem dX12_drawsLine_156 : decode cX12_drawsLine 156 = .ok (.aload_n 0, 1) := by decide +kernel
theorem dX12_drawsLine_157 : decode cX12_drawsLine 157 = .ok (.getfield 43, 3) := by decide +kernel
theorem dX12_drawsLine_160 : decode cX12_drawsLine 160 = .ok (.iconst 3, 1) := by decide +kernel
theorem dX12_drawsLine_161 : decode cX12_drawsLine 161 = .ok (.iload_n 3, 1) := by decide +kernel
theorem dX12_drawsLine_162 : decode cX12_drawsLine 162 = .ok (.iastore, 1) := by decide +kernel
theorem dX12_drawsLine_163 : decode cX12_drawsLine 163 = .ok (.aload_n 0, 1) := by decide +kernel
theorem dX12_drawsLine_164 : decode cX12_drawsLine 164 = .ok (.getfield 43, 3) := by decide +kernel
theorem dX12_drawsLine_167 : decode cX12_drawsLine 167 = .ok (.iconst 4, 1) := by decide +kernel
theorem dX12_drawsLine_168 : decode cX12_drawsLine 168 = .ok (.aload_n 0, 1) := by decide +kernel
theorem dX12_drawsLine_169 : decode cX12_drawsLine 169 = .ok (.iconst 4, 1) := by decide +kernel
theorem dX12_drawsLine_170 : decode cX12_drawsLine 170 = .ok (.invokevirtual 530, 3) := by decide +kernel
theorem dX12_drawsLine_173 : decode cX12_drawsLine 173 = .ok (.iastore, 1) := by decide +kernel
theorem dX12_drawsLine_174 : decode cX12_drawsLine 174 = .ok (.return_, 1) := by decide +kernel
abbrev M_X12_drawsLine : mM := (cX12_drawsLine, 5, RX12, none, false, 1, 21, 0, 0)
theorem gX12_drawsLine : cI yX12_drawsLine M_X12_drawsLine 2 := ⟨(wsl_64 _ (List.mem_of_getElem? (i := 23) rfl)), (wsl_65 _ (List.mem_of_getElem? (i := 0) rfl)), (wsl_1 _ (List.mem_of_getElem? (i := 5) rfl)), (wsl_65 _ (List.mem_of_getElem? (i := 1) rfl)), by decide +kernel⟩
noncomputable def fX12_drawsLine_b85 (h : hH) (a0 a2 l3 s0 s1 s2 : Int) : Option ((hH × Int) ⊕ (hH)) :=
  (aput h s2 s1 s0).bind fun h85 =>
  some (.inl (h85, w32 (l3 + 1)))
noncomputable def fX12_drawsLine_s47 (h0 : hH) (a0 a2 : Int) : hH × Int → Option ((hH × Int) ⊕ (hH)) := fun (h, l3) =>
  (aget h (h a0 6) (w32 (4 + a2))).bind fun v55 =>
  if l3 < v55 then
    (fX12_draw h a0 5).bind fun q61 =>
    if q61.1 = 4 then
      fX12_drawsLine_b85 q61.2 a0 a2 l3 (-1) (w32 (3 + l3)) (q61.2 a0 9)
    else
      fX12_drawsLine_b85 q61.2 a0 a2 l3 q61.1 (w32 (3 + l3)) (q61.2 a0 9)
  else
    some (.inr (h))
noncomputable def fX12_drawsLine_b39 (h : hH) (a0 a1 a2 s0 s1 s2 : Int) : Option (hH) :=
  (aput h s2 s1 s0).bind fun h39 =>
  if a1 < 3 then
    lpO (fX12_drawsLine_s47 h39 a0 a2) (h39, 0)
  else
    (aget h39 (h39 a0 6) (w32 (4 + a2))).bind fun v101 =>
    (fX12_draw h39 a0 v101).bind fun q102 =>
    (aput q102.2 (q102.2 a0 9) 7 1).bind fun h113 =>
    (aput h113 (h113 a0 9) 8 q102.1).bind fun h121 =>
    (aput h121 (h121 a0 9) 9 61).bind fun h130 =>
    (fX12_draw h130 a0 4).bind fun q139 =>
    (aput q139.2 (h130 a0 9) 10 q139.1).bind fun h142 =>
    if a1 = 3 then
      some h142
    else
      (aput h142 (h142 a0 9) 2 1).bind fun h155 =>
      (aput h155 (h155 a0 9) 3 q102.1).bind fun h162 =>
      (fX12_draw h162 a0 4).bind fun q170 =>
      (aput q170.2 (h162 a0 9) 4 q170.1).bind fun h173 =>
      some h173
noncomputable def fX12_drawsLine (h : hH) (a0 a1 a2 : Int) : Option (hH) :=
  (aput h (h a0 9) 1 a2).bind fun h6 =>
  (aput h6 (h6 a0 9) 2 0).bind fun h13 =>
  (aput h13 (h13 a0 9) 7 0).bind fun h21 =>
  if a1 < 3 then
    fX12_drawsLine_b39 h21 a0 a1 a2 0 0 (h21 a0 9)
  else
    fX12_drawsLine_b39 h21 a0 a1 a2 (w32 (a1 - 2)) 0 (h21 a0 9)
section M_X12_drawsLine
variable {p : Program} {l : Launch} {e : Env} {R : Room} {s : State} {m : MethodId} {args : Array Value} {below : List Frame} {meth : Method} {c : Code} {D : va_G} {G : gG} {A : Nat → Prop} {H0 : Heap} {n0 : Int} {x : Option vV × hH} {h : hH}
set_option maxRecDepth 100000 in
set_option maxHeartbeats 4000000 in
theorem oX12_drawsLine_b85 {a0 a2 l3 s0 s1 s2 : Int} {K : (hH × Int) ⊕ (hH) → Prop} (k0 : ∀ r, K (.inr (r)) → x = (none, r)) (k1 : ∀ (h : hH) (l3 : Int), K (.inl (h, l3)) → Wq p l e R s m args below meth c D G A H0 true n0 M_X12_drawsLine x 0 0 47 [(0, (22, a0)), (2, (0, a2)), (3, (0, l3))] [] h) {r : (hH × Int) ⊕ (hH)} (hr : fX12_drawsLine_b85 h a0 a2 l3 s0 s1 s2 = some r) (hk : K r) : Wq p l e R s m args below meth c D G A H0 true n0 M_X12_drawsLine x 0 0 85 [(0, (22, a0)), (2, (0, a2)), (3, (0, l3))] [(0, s0), (0, s1), (50, s2)] h := by
  unfold fX12_drawsLine_b85 at hr
  obtain ⟨h85, hg85, hr⟩ := bnd hr
  refine r_iast dX12_drawsLine_85 hg85 ?_
  refine r_iinc (k := 2) (v := l3) dX12_drawsLine_86 rfl (by decide) (lv' := [(3, (0, w32 (l3 + 1))), (0, (22, a0)), (2, (0, a2))]) rfl ?_
  refine r_goto dX12_drawsLine_89 (tgt := 47) (by decide) ?_
  refine r_sub [1, 2, 0] (lv' := [(0, (22, a0)), (2, (0, a2)), (3, (0, w32 (l3 + 1)))]) rfl ?_
  obtain rfl := Option.some.inj hr
  exact k1 _ _ hk
set_option maxRecDepth 100000 in
set_option maxHeartbeats 4000000 in
theorem oX12_drawsLine_s47 {h0 : hH} {a0 a2 l3 : Int} {K : (hH × Int) ⊕ (hH) → Prop} (k0 : ∀ r, K (.inr (r)) → x = (none, r)) (k1 : ∀ (h : hH) (l3 : Int), K (.inl (h, l3)) → Wq p l e R s m args below meth c D G A H0 true n0 M_X12_drawsLine x 0 0 47 [(0, (22, a0)), (2, (0, a2)), (3, (0, l3))] [] h) {r : (hH × Int) ⊕ (hH)} (hr : fX12_drawsLine_s47 h0 a0 a2 (h, l3) = some r) (hk : K r) : Wq p l e R s m args below meth c D G A H0 true n0 M_X12_drawsLine x 0 0 47 [(0, (22, a0)), (2, (0, a2)), (3, (0, l3))] [] h := by
  unfold fX12_drawsLine_s47 at hr
  refine r_iload_n dX12_drawsLine_47 rfl 2 rfl (Or.inl rfl) ?_
  refine r_aload_n dX12_drawsLine_48 rfl 0 rfl (nl rfl) ?_
  refine r_get 12 6 (o := a0) (w := (50, h a0 6)) (T := TX12) (ref := "FollowingRefsModel") rfl (by decide) rfl (by decide) inlX12 (wsl_7 _ (List.mem_of_getElem? (i := 8) rfl)) rfl dX12_drawsLine_49 rfl ?_
  refine r_iconst dX12_drawsLine_52 (by decide) ?_
  refine r_iload_n dX12_drawsLine_53 rfl 1 rfl (Or.inl rfl) ?_
  refine r_iadd dX12_drawsLine_54 ?_
  obtain ⟨v55, hg55, hr⟩ := bnd hr
  refine r_iald dX12_drawsLine_55 hg55 ?_
  refine r_icmp_ge dX12_drawsLine_56 (tgt := 92) (by decide) (fun hc => ?_) (fun hc => ?_)
  · have hr := ifn hr hc
    obtain rfl := Option.some.inj hr
    exact r_vret dX12_drawsLine_92 rfl (k0 _ hk) ⟨rfl, rfl⟩
  · have hr := ifp hr hc
    refine r_aload_n dX12_drawsLine_59 rfl 0 rfl (nl rfl) ?_
    refine r_iconst dX12_drawsLine_60 (by decide) ?_
    obtain ⟨q61, hg61, hr⟩ := bnd hr
    refine k_V (ci := 12) (o := a0) (T := TX12) (as := [(0, 5)]) (rest := []) (X := (some (0, q61.1), q61.2)) (oX12_draw hg61) gX12_draw rfl (by decide) rfl (wsl_64 _ (List.mem_of_getElem? (i := 17) rfl)) rfl dX12_drawsLine_61 rfl ?_
    refine r_istore dX12_drawsLine_64 (Or.inl rfl) (by decide) (lv' := [(4, (0, q61.1)), (0, (22, a0)), (2, (0, a2)), (3, (0, l3))]) rfl ?_
    refine r_aload_n dX12_drawsLine_66 rfl 1 rfl (nl rfl) ?_
    refine r_get 12 9 (o := a0) (w := (50, q61.2 a0 9)) (T := TX12) (ref := "FollowingRefsModel") rfl (by decide) rfl (by decide) inlX12 (wsl_7 _ (List.mem_of_getElem? (i := 11) rfl)) rfl dX12_drawsLine_67 rfl ?_
    refine r_iconst dX12_drawsLine_70 (by decide) ?_
    refine r_iload_n dX12_drawsLine_71 rfl 3 rfl (Or.inl rfl) ?_
    refine r_iadd dX12_drawsLine_72 ?_
    refine r_iload dX12_drawsLine_73 0 rfl (Or.inl rfl) ?_
    refine r_iconst dX12_drawsLine_75 (by decide) ?_
    refine r_icmp_ne dX12_drawsLine_76 (tgt := 83) (by decide) (fun hc => ?_) (fun hc => ?_)
    · have hr := ifn hr hc
      refine r_iload dX12_drawsLine_83 0 rfl (Or.inl rfl) ?_
      refine r_sub [1, 2, 3] (lv' := [(0, (22, a0)), (2, (0, a2)), (3, (0, l3))]) rfl ?_
      exact oX12_drawsLine_b85 (K := K) (fun r z => k0 r z) (fun _ _ z => k1 _ _ z) hr hk
    · have hr := ifp hr hc
      refine r_iconst dX12_drawsLine_79 (by decide) ?_
      refine r_goto dX12_drawsLine_80 (tgt := 85) (by decide) ?_
      refine r_sub [1, 2, 3] (lv' := [(0, (22, a0)), (2, (0, a2)), (3, (0, l3))]) rfl ?_
      exact oX12_drawsLine_b85 (K := K) (fun r z => k0 r z) (fun _ _ z => k1 _ _ z) hr hk
set_option maxRecDepth 100000 in
set_option maxHeartbeats 4000000 in
theorem oX12_drawsLine_b39 {a0 a1 a2 s0 s1 s2 : Int} {K : hH → Prop} (k0 : ∀ r, K (r) → x = (none, r)) {r : hH} (hr : fX12_drawsLine_b39 h a0 a1 a2 s0 s1 s2 = some r) (hk : K r) : Wq p l e R s m args below meth c D G A H0 true n0 M_X12_drawsLine x 0 0 39 [(0, (22, a0)), (1, (0, a1)), (2, (0, a2))] [(0, s0), (2, s1), (50, s2)] h := by
  unfold fX12_drawsLine_b39 at hr
  refine r_scast 1 (v := (2, s1)) (w := (0, s1)) rfl zc hTz (st' := [(0, s0), (0, s1), (50, s2)]) rfl ?_
  obtain ⟨h39, hg39, hr⟩ := bnd hr
  refine r_iast dX12_drawsLine_39 hg39 ?_
  refine r_iload_n dX12_drawsLine_40 rfl 1 rfl (Or.inl rfl) ?_
  refine r_iconst dX12_drawsLine_41 (by decide) ?_
  refine r_icmp_ge dX12_drawsLine_42 (tgt := 93) (by decide) (fun hc => ?_) (fun hc => ?_)
  · have hr := ifn hr hc
    refine r_aload_n dX12_drawsLine_93 rfl 0 rfl (nl rfl) ?_
    refine r_aload_n dX12_drawsLine_94 rfl 0 rfl (nl rfl) ?_
    refine r_get 12 6 (o := a0) (w := (50, h39 a0 6)) (T := TX12) (ref := "FollowingRefsModel") rfl (by decide) rfl (by decide) inlX12 (wsl_7 _ (List.mem_of_getElem? (i := 8) rfl)) rfl dX12_drawsLine_95 rfl ?_
    refine r_iconst dX12_drawsLine_98 (by decide) ?_
    refine r_iload_n dX12_drawsLine_99 rfl 2 rfl (Or.inl rfl) ?_
    refine r_iadd dX12_drawsLine_100 ?_
    obtain ⟨v101, hg101, hr⟩ := bnd hr
    refine r_iald dX12_drawsLine_101 hg101 ?_
    obtain ⟨q102, hg102, hr⟩ := bnd hr
    refine k_V (ci := 12) (o := a0) (T := TX12) (as := [(0, v101)]) (rest := []) (X := (some (0, q102.1), q102.2)) (oX12_draw hg102) gX12_draw rfl (by decide) rfl (wsl_64 _ (List.mem_of_getElem? (i := 17) rfl)) rfl dX12_drawsLine_102 rfl ?_
    refine r_istore_n dX12_drawsLine_105 rfl (Or.inl rfl) (by decide) (lv' := [(3, (0, q102.1)), (0, (22, a0)), (1, (0, a1)), (2, (0, a2))]) rfl ?_
    refine r_aload_n dX12_drawsLine_106 rfl 1 rfl (nl rfl) ?_
    refine r_get 12 9 (o := a0) (w := (50, q102.2 a0 9)) (T := TX12) (ref := "FollowingRefsModel") rfl (by decide) rfl (by decide) inlX12 (wsl_7 _ (List.mem_of_getElem? (i := 11) rfl)) rfl dX12_drawsLine_107 rfl ?_
    refine r_bipush dX12_drawsLine_110 (by decide) (by decide) ?_
    refine r_iconst dX12_drawsLine_112 (by decide) ?_
    obtain ⟨h113, hg113, hr⟩ := bnd hr
    refine r_iast dX12_drawsLine_113 hg113 ?_
    refine r_aload_n dX12_drawsLine_114 rfl 1 rfl (nl rfl) ?_
    refine r_get 12 9 (o := a0) (w := (50, h113 a0 9)) (T := TX12) (ref := "FollowingRefsModel") rfl (by decide) rfl (by decide) inlX12 (wsl_7 _ (List.mem_of_getElem? (i := 11) rfl)) rfl dX12_drawsLine_115 rfl ?_
    refine r_bipush dX12_drawsLine_118 (by decide) (by decide) ?_
    refine r_iload_n dX12_drawsLine_120 rfl 0 rfl (Or.inl rfl) ?_
    obtain ⟨h121, hg121, hr⟩ := bnd hr
    refine r_iast dX12_drawsLine_121 hg121 ?_
    refine r_aload_n dX12_drawsLine_122 rfl 1 rfl (nl rfl) ?_
    refine r_get 12 9 (o := a0) (w := (50, h121 a0 9)) (T := TX12) (ref := "FollowingRefsModel") rfl (by decide) rfl (by decide) inlX12 (wsl_7 _ (List.mem_of_getElem? (i := 11) rfl)) rfl dX12_drawsLine_123 rfl ?_
    refine r_bipush dX12_drawsLine_126 (by decide) (by decide) ?_
    refine r_bipush dX12_drawsLine_128 (by decide) (by decide) ?_
    obtain ⟨h130, hg130, hr⟩ := bnd hr
    refine r_iast dX12_drawsLine_130 hg130 ?_
    refine r_aload_n dX12_drawsLine_131 rfl 1 rfl (nl rfl) ?_
    refine r_get 12 9 (o := a0) (w := (50, h130 a0 9)) (T := TX12) (ref := "FollowingRefsModel") rfl (by decide) rfl (by decide) inlX12 (wsl_7 _ (List.mem_of_getElem? (i := 11) rfl)) rfl dX12_drawsLine_132 rfl ?_
    refine r_bipush dX12_drawsLine_135 (by decide) (by decide) ?_
    refine r_aload_n dX12_drawsLine_137 rfl 1 rfl (nl rfl) ?_
    refine r_iconst dX12_drawsLine_138 (by decide) ?_
    obtain ⟨q139, hg139, hr⟩ := bnd hr
    refine k_V (ci := 12) (o := a0) (T := TX12) (as := [(0, 4)]) (rest := [(0, 10), (50, h130 a0 9)]) (X := (some (0, q139.1), q139.2)) (oX12_draw hg139) gX12_draw rfl (by decide) rfl (wsl_64 _ (List.mem_of_getElem? (i := 17) rfl)) rfl dX12_drawsLine_139 rfl ?_
    obtain ⟨h142, hg142, hr⟩ := bnd hr
    refine r_iast dX12_drawsLine_142 hg142 ?_
    refine r_iload_n dX12_drawsLine_143 rfl 2 rfl (Or.inl rfl) ?_
    refine r_iconst dX12_drawsLine_144 (by decide) ?_
    refine r_icmp_ne dX12_drawsLine_145 (tgt := 149) (by decide) (fun hc => ?_) (fun hc => ?_)
    · have hr := ifn hr hc
      refine r_aload_n dX12_drawsLine_149 rfl 1 rfl (nl rfl) ?_
      refine r_get 12 9 (o := a0) (w := (50, h142 a0 9)) (T := TX12) (ref := "FollowingRefsModel") rfl (by decide) rfl (by decide) inlX12 (wsl_7 _ (List.mem_of_getElem? (i := 11) rfl)) rfl dX12_drawsLine_150 rfl ?_
      refine r_iconst dX12_drawsLine_153 (by decide) ?_
      refine r_iconst dX12_drawsLine_154 (by decide) ?_
      obtain ⟨h155, hg155, hr⟩ := bnd hr
      refine r_iast dX12_drawsLine_155 hg155 ?_
      refine r_aload_n dX12_drawsLine_156 rfl 1 rfl (nl rfl) ?_
      refine r_get 12 9 (o := a0) (w := (50, h155 a0 9)) (T := TX12) (ref := "FollowingRefsModel") rfl (by decide) rfl (by decide) inlX12 (wsl_7 _ (List.mem_of_getElem? (i := 11) rfl)) rfl dX12_drawsLine_157 rfl ?_
      refine r_iconst dX12_drawsLine_160 (by decide) ?_
      refine r_iload_n dX12_drawsLine_161 rfl 0 rfl (Or.inl rfl) ?_
      obtain ⟨h162, hg162, hr⟩ := bnd hr
      refine r_iast dX12_drawsLine_162 hg162 ?_
      refine r_aload_n dX12_drawsLine_163 rfl 1 rfl (nl rfl) ?_
      refine r_get 12 9 (o := a0) (w := (50, h162 a0 9)) (T := TX12) (ref := "FollowingRefsModel") rfl (by decide) rfl (by decide) inlX12 (wsl_7 _ (List.mem_of_getElem? (i := 11) rfl)) rfl dX12_drawsLine_164 rfl ?_
      refine r_iconst dX12_drawsLine_167 (by decide) ?_
      refine r_aload_n dX12_drawsLine_168 rfl 1 rfl (nl rfl) ?_
      refine r_iconst dX12_drawsLine_169 (by decide) ?_
      obtain ⟨q170, hg170, hr⟩ := bnd hr
      refine k_V (ci := 12) (o := a0) (T := TX12) (as := [(0, 4)]) (rest := [(0, 4), (50, h162 a0 9)]) (X := (some (0, q170.1), q170.2)) (oX12_draw hg170) gX12_draw rfl (by decide) rfl (wsl_64 _ (List.mem_of_getElem? (i := 17) rfl)) rfl dX12_drawsLine_170 rfl ?_
      obtain ⟨h173, hg173, hr⟩ := bnd hr
      refine r_iast dX12_drawsLine_173 hg173 ?_
      obtain rfl := Option.some.inj hr
      exact r_vret dX12_drawsLine_174 rfl (k0 _ hk) ⟨rfl, rfl⟩
    · have hr := ifp hr hc
      obtain rfl := Option.some.inj hr
      exact r_vret dX12_drawsLine_148 rfl (k0 _ hk) ⟨rfl, rfl⟩
  · have hr := ifp hr hc
    refine r_iconst dX12_drawsLine_45 (by decide) ?_
    refine r_istore_n dX12_drawsLine_46 rfl (Or.inl rfl) (by decide) (lv' := [(3, (0, 0)), (0, (22, a0)), (1, (0, a1)), (2, (0, a2))]) rfl ?_
    refine r_sub [1, 3, 0] (lv' := [(0, (22, a0)), (2, (0, a2)), (3, (0, 0))]) rfl ?_
    exact lp_ok (w := fun (q : hH × Int) => Wq p l e R s m args below meth c D G A H0 true n0 M_X12_drawsLine x 0 0 47 [(0, (22, a0)), (2, (0, a2)), (3, (0, q.2))] [] (q.1)) (K := K) (fun ⟨q0, q1⟩ r h1 h2 => oX12_drawsLine_s47 (K := Sum.elim (fun (q : hH × Int) => Wq p l e R s m args below meth c D G A H0 true n0 M_X12_drawsLine x 0 0 47 [(0, (22, a0)), (2, (0, a2)), (3, (0, q.2))] [] (q.1)) (K)) (fun r z => k0 r z) (fun _ _ z => z) h1 h2) hr hk
set_option maxRecDepth 100000 in
set_option maxHeartbeats 4000000 in
theorem oX12_drawsLine_b0 {a0 a1 a2 : Int} {K : hH → Prop} (k0 : ∀ r, K (r) → x = (none, r)) {r : hH} (hr : fX12_drawsLine h a0 a1 a2 = some r) (hk : K r) : Wq p l e R s m args below meth c D G A H0 true n0 M_X12_drawsLine x 0 0 0 [(0, (22, a0)), (1, (0, a1)), (2, (0, a2))] [] h := by
  unfold fX12_drawsLine at hr
  refine r_aload_n dX12_drawsLine_0 rfl 0 rfl (nl rfl) ?_
  refine r_get 12 9 (o := a0) (w := (50, h a0 9)) (T := TX12) (ref := "FollowingRefsModel") rfl (by decide) rfl (by decide) inlX12 (wsl_7 _ (List.mem_of_getElem? (i := 11) rfl)) rfl dX12_drawsLine_1 rfl ?_
  refine r_iconst dX12_drawsLine_4 (by decide) ?_
  refine r_iload_n dX12_drawsLine_5 rfl 2 rfl (Or.inl rfl) ?_
  obtain ⟨h6, hg6, hr⟩ := bnd hr
  refine r_iast dX12_drawsLine_6 hg6 ?_
  refine r_aload_n dX12_drawsLine_7 rfl 0 rfl (nl rfl) ?_
  refine r_get 12 9 (o := a0) (w := (50, h6 a0 9)) (T := TX12) (ref := "FollowingRefsModel") rfl (by decide) rfl (by decide) inlX12 (wsl_7 _ (List.mem_of_getElem? (i := 11) rfl)) rfl dX12_drawsLine_8 rfl ?_
  refine r_iconst dX12_drawsLine_11 (by decide) ?_
  refine r_iconst dX12_drawsLine_12 (by decide) ?_
  obtain ⟨h13, hg13, hr⟩ := bnd hr
  refine r_iast dX12_drawsLine_13 hg13 ?_
  refine r_aload_n dX12_drawsLine_14 rfl 0 rfl (nl rfl) ?_
  refine r_get 12 9 (o := a0) (w := (50, h13 a0 9)) (T := TX12) (ref := "FollowingRefsModel") rfl (by decide) rfl (by decide) inlX12 (wsl_7 _ (List.mem_of_getElem? (i := 11) rfl)) rfl dX12_drawsLine_15 rfl ?_
  refine r_bipush dX12_drawsLine_18 (by decide) (by decide) ?_
  refine r_iconst dX12_drawsLine_20 (by decide) ?_
  obtain ⟨h21, hg21, hr⟩ := bnd hr
  refine r_iast dX12_drawsLine_21 hg21 ?_
  refine r_aload_n dX12_drawsLine_22 rfl 0 rfl (nl rfl) ?_
  refine r_get 12 9 (o := a0) (w := (50, h21 a0 9)) (T := TX12) (ref := "FollowingRefsModel") rfl (by decide) rfl (by decide) inlX12 (wsl_7 _ (List.mem_of_getElem? (i := 11) rfl)) rfl dX12_drawsLine_23 rfl ?_
  refine r_iconst dX12_drawsLine_26 (by decide) ?_
  refine r_iload_n dX12_drawsLine_27 rfl 1 rfl (Or.inl rfl) ?_
  refine r_iconst dX12_drawsLine_28 (by decide) ?_
  refine r_icmp_ge dX12_drawsLine_29 (tgt := 36) (by decide) (fun hc => ?_) (fun hc => ?_)
  · have hr := ifn hr hc
    refine r_iload_n dX12_drawsLine_36 rfl 1 rfl (Or.inl rfl) ?_
    refine r_iconst dX12_drawsLine_37 (by decide) ?_
    refine r_isub dX12_drawsLine_38 ?_
    refine r_scast 1 (v := (0, 0)) (w := (2, 0)) rfl cz (fun _ => Or.inl rfl) (st' := [(0, w32 (a1 - 2)), (2, 0), (50, h21 a0 9)]) rfl ?_
    exact oX12_drawsLine_b39 (K := K) (fun r z => k0 r z) hr hk
  · have hr := ifp hr hc
    refine r_iconst dX12_drawsLine_32 (by decide) ?_
    refine r_goto dX12_drawsLine_33 (tgt := 39) (by decide) ?_
    refine r_scast 1 (v := (0, 0)) (w := (2, 0)) rfl cz (fun _ => Or.inl rfl) (st' := [(0, 0), (2, 0), (50, h21 a0 9)]) rfl ?_
    exact oX12_drawsLine_b39 (K := K) (fun r z => k0 r z) hr hk
end M_X12_drawsLine
theorem oX12_drawsLine {l : Launch} {D : va_G} {G : gG} {h : hH} {a0 a1 a2 : Int} {r : hH} (hr : fX12_drawsLine h a0 a1 a2 = some r) : Ctr l D G true yX12_drawsLine M_X12_drawsLine [(22, a0), (0, a1), (0, a2)] h (none, r) :=
  Ctr_of (by decide) rfl (fun z => by cases z) (nl rfl) (fun {p e R s m args below meth c A H0} => by
    exact oX12_drawsLine_b0 (K := fun z9 => z9 = r) (fun r9 z => by rw [z]) hr rfl)
/-! X12_drawDeed -/
theorem dX12_drawDeed_0 : decode cX12_drawDeed 0 = .ok (.aload_n 0, 1) := by decide +kernel
theorem dX12_drawDeed_1 : decode cX12_drawDeed 1 = .ok (.bipush 6, 2) := by decide +kernel
theorem dX12_drawDeed_3 : decode cX12_drawDeed 3 = .ok (.invokevirtual 530, 3) := by decide +kernel
theorem dX12_drawDeed_6 : decode cX12_drawDeed 6 = .ok (.istore_n 1, 1) := by decide +kernel
theorem dX12_drawDeed_7 : decode cX12_drawDeed 7 = .ok (.aload_n 0, 1) := by decide +kernel
theorem dX12_drawDeed_8 : decode cX12_drawDeed 8 = .ok (.aload_n 0, 1) := by decide +kernel
theorem dX12_drawDeed_9 : decode cX12_drawDeed 9 = .ok (.getfield 33, 3) := by decide +kernel
theorem dX12_drawDeed_12 : decode cX12_drawDeed 12 = .ok (.iconst 0, 1) := by decide +kernel
theorem dX12_drawDeed_13 : decode cX12_drawDeed 13 = .ok (.iaload, 1) := by decide +kernel
theorem dX12_drawDeed_14 : decode cX12_drawDeed 14 = .ok (.invokevirtual 530, 3) := by decide +kernel
theorem dX12_drawDeed_17 : decode cX12_drawDeed 17 = .ok (.istore_n 2, 1) := by decide +kernel
theorem dX12_drawDeed_18 : decode cX12_drawDeed 18 = .ok (.iload_n 1, 1) := by decide +kernel
theorem dX12_drawDeed_19 : decode cX12_drawDeed 19 = .ok (.iconst 5, 1) := by decide +kernel
theorem dX12_drawDeed_20 : decode cX12_drawDeed 20 = .ok (.if_icmp .ge 23, 3) := by decide +kernel
theorem dX12_drawDeed_23 : decode cX12_drawDeed 23 = .ok (.aload_n 0, 1) := by decide +kernel
theorem dX12_drawDeed_24 : decode cX12_drawDeed 24 = .ok (.iload_n 1, 1) := by decide +kernel
theorem dX12_drawDeed_25 : decode cX12_drawDeed 25 = .ok (.iload_n 2, 1) := by decide +kernel
theorem dX12_drawDeed_26 : decode cX12_drawDeed 26 = .ok (.invokevirtual 533, 3) := by decide +kernel
theorem dX12_drawDeed_29 : decode cX12_drawDeed 29 = .ok (.aload_n 0, 1) := by decide +kernel
theorem dX12_drawDeed_30 : decode cX12_drawDeed 30 = .ok (.iconst 0, 1) := by decide +kernel
theorem dX12_drawDeed_31 : decode cX12_drawDeed 31 = .ok (.invokevirtual 442, 3) := by decide +kernel
theorem dX12_drawDeed_34 : decode cX12_drawDeed 34 = .ok (.ifCond .ne 7, 3) := by decide +kernel
theorem dX12_drawDeed_37 : decode cX12_drawDeed 37 = .ok (.iconst 1, 1) := by decide +kernel
theorem dX12_drawDeed_38 : decode cX12_drawDeed 38 = .ok (.goto 4, 3) := by decide +kernel
theorem dX12_drawDeed_41 : decode cX12_drawDeed 41 = .ok (.iconst 0, 1) := by decide +kernel
theorem dX12_drawDeed_42 : decode cX12_drawDeed 42 = .ok (.ireturn, 1) := by decide +kernel
theorem dX12_drawDeed_43 : decode cX12_drawDeed 43 = .ok (.aload_n 0, 1) := by decide +kernel
theorem dX12_drawDeed_44 : decode cX12_drawDeed 44 = .ok (.getfield 33, 3) := by decide +kernel
theorem dX12_drawDeed_47 : decode cX12_drawDeed 47 = .ok (.sipush 149, 3) := by decide +kernel
theorem dX12_drawDeed_50 : decode cX12_drawDeed 50 = .ok (.iaload, 1) := by decide +kernel
theorem dX12_drawDeed_51 : decode cX12_drawDeed 51 = .ok (.ifCond .ne 10, 3) := by decide +kernel
theorem dX12_drawDeed_54 : decode cX12_drawDeed 54 = .ok (.aload_n 0, 1) := by decide +kernel
theorem dX12_drawDeed_55 : decode cX12_drawDeed 55 = .ok (.invokevirtual 465, 3) := by decide +kernel
theorem dX12_drawDeed_58 : decode cX12_drawDeed 58 = .ok (.goto 21, 3) := by decide +kernel
theorem dX12_drawDeed_61 : decode cX12_drawDeed 61 = .ok (.aload_n 0, 1) := by decide +kernel
theorem dX12_drawDeed_62 : decode cX12_drawDeed 62 = .ok (.invokevirtual 471, 3) := by decide +kernel
theorem dX12_drawDeed_65 : decode cX12_drawDeed 65 = .ok (.ifCond .ne 10, 3) := by decide +kernel
theorem dX12_drawDeed_68 : decode cX12_drawDeed 68 = .ok (.aload_n 0, 1) := by decide +kernel
theorem dX12_drawDeed_69 : decode cX12_drawDeed 69 = .ok (.invokevirtual 477, 3) := by decide +kernel
theorem dX12_drawDeed_72 : decode cX12_drawDeed 72 = .ok (.goto 7, 3) := by decide +kernel
theorem dX12_drawDeed_75 : decode cX12_drawDeed 75 = .ok (.aload_n 0, 1) := by decide +kernel
theorem dX12_drawDeed_76 : decode cX12_drawDeed 76 = .ok (.invokevirtual 480, 3) := by decide +kernel
theorem dX12_drawDeed_79 : decode cX12_drawDeed 79 = .ok (.iconst 1, 1) := by decide +kernel
theorem dX12_drawDeed_80 : decode cX12_drawDeed 80 = .ok (.ireturn, 1) := by decide +kernel
abbrev M_X12_drawDeed : mM := (cX12_drawDeed, 3, RX12, some .boolean, false, 6, 142, 0, 0)
theorem gX12_drawDeed : cI yX12_drawDeed M_X12_drawDeed 0 := ⟨(wsl_64 _ (List.mem_of_getElem? (i := 14) rfl)), (wsl_64 _ (List.mem_of_getElem? (i := 15) rfl)), (wsl_1 _ (List.mem_of_getElem? (i := 5) rfl)), (wsl_64 _ (List.mem_of_getElem? (i := 16) rfl)), by decide +kernel⟩
noncomputable def fX12_drawDeed (h : hH) (a0 : Int) : Option (Int × hH) :=
  (fX12_draw h a0 6).bind fun q3 =>
  (aget q3.2 (q3.2 a0 6) 0).bind fun v13 =>
  (fX12_draw q3.2 a0 v13).bind fun q14 =>
  if q3.1 < 5 then
    (fX12_drawsLine q14.2 a0 q3.1 q14.1).bind fun h26 =>
    (fX12_judges h26 a0 0).bind fun q31 =>
    if q31.1 = 0 then
      some (1, q31.2)
    else
      some (0, q31.2)
  else
    (aget q14.2 (q14.2 a0 6) 149).bind fun v50 =>
    if v50 = 0 then
      (fX12_begins q14.2 a0).bind fun h55 =>
      some (1, h55)
    else
      (fX12_whyCommit q14.2 a0).bind fun q62 =>
      if q62.1 = 0 then
        (fX12_commits q62.2 a0).bind fun h69 =>
        some (1, h69)
      else
        (fX12_backs q62.2 a0).bind fun h76 =>
        some (1, h76)
section M_X12_drawDeed
variable {p : Program} {l : Launch} {e : Env} {R : Room} {s : State} {m : MethodId} {args : Array Value} {below : List Frame} {meth : Method} {c : Code} {D : va_G} {G : gG} {A : Nat → Prop} {H0 : Heap} {n0 : Int} {x : Option vV × hH} {h : hH}
set_option maxRecDepth 100000 in
set_option maxHeartbeats 4000000 in
theorem oX12_drawDeed_b0 {a0 : Int} {K : Int × hH → Prop} (k0 : ∀ r, K (r) → x = (some (2, r.1), r.2)) {r : Int × hH} (hr : fX12_drawDeed h a0 = some r) (hk : K r) : Wq p l e R s m args below meth c D G A H0 true n0 M_X12_drawDeed x 0 0 0 [(0, (22, a0))] [] h := by
  unfold fX12_drawDeed at hr
  refine r_aload_n dX12_drawDeed_0 rfl 0 rfl (nl rfl) ?_
  refine r_bipush dX12_drawDeed_1 (by decide) (by decide) ?_
  obtain ⟨q3, hg3, hr⟩ := bnd hr
  refine k_V (ci := 12) (o := a0) (T := TX12) (as := [(0, 6)]) (rest := []) (X := (some (0, q3.1), q3.2)) (oX12_draw hg3) gX12_draw rfl (by decide) rfl (wsl_64 _ (List.mem_of_getElem? (i := 17) rfl)) rfl dX12_drawDeed_3 rfl ?_
  refine r_istore_n dX12_drawDeed_6 rfl (Or.inl rfl) (by decide) (lv' := [(1, (0, q3.1)), (0, (22, a0))]) rfl ?_
  refine r_aload_n dX12_drawDeed_7 rfl 1 rfl (nl rfl) ?_
  refine r_aload_n dX12_drawDeed_8 rfl 1 rfl (nl rfl) ?_
  refine r_get 12 6 (o := a0) (w := (50, q3.2 a0 6)) (T := TX12) (ref := "FollowingRefsModel") rfl (by decide) rfl (by decide) inlX12 (wsl_7 _ (List.mem_of_getElem? (i := 8) rfl)) rfl dX12_drawDeed_9 rfl ?_
  refine r_iconst dX12_drawDeed_12 (by decide) ?_
  obtain ⟨v13, hg13, hr⟩ := bnd hr
  refine r_iald dX12_drawDeed_13 hg13 ?_
  obtain ⟨q14, hg14, hr⟩ := bnd hr
  refine k_V (ci := 12) (o := a0) (T := TX12) (as := [(0, v13)]) (rest := []) (X := (some (0, q14.1), q14.2)) (oX12_draw hg14) gX12_draw rfl (by decide) rfl (wsl_64 _ (List.mem_of_getElem? (i := 17) rfl)) rfl dX12_drawDeed_14 rfl ?_
  refine r_istore_n dX12_drawDeed_17 rfl (Or.inl rfl) (by decide) (lv' := [(2, (0, q14.1)), (1, (0, q3.1)), (0, (22, a0))]) rfl ?_
  refine r_iload_n dX12_drawDeed_18 rfl 1 rfl (Or.inl rfl) ?_
  refine r_iconst dX12_drawDeed_19 (by decide) ?_
  refine r_icmp_ge dX12_drawDeed_20 (tgt := 43) (by decide) (fun hc => ?_) (fun hc => ?_)
  · have hr := ifn hr hc
    refine r_aload_n dX12_drawDeed_43 rfl 2 rfl (nl rfl) ?_
    refine r_get 12 6 (o := a0) (w := (50, q14.2 a0 6)) (T := TX12) (ref := "FollowingRefsModel") rfl (by decide) rfl (by decide) inlX12 (wsl_7 _ (List.mem_of_getElem? (i := 8) rfl)) rfl dX12_drawDeed_44 rfl ?_
    refine r_sipush dX12_drawDeed_47 (by decide) (by decide) ?_
    obtain ⟨v50, hg50, hr⟩ := bnd hr
    refine r_iald dX12_drawDeed_50 hg50 ?_
    refine r_if_ne dX12_drawDeed_51 (tgt := 61) (by decide) (fun hc => ?_) (fun hc => ?_)
    · have hr := ifn hr hc
      refine r_aload_n dX12_drawDeed_61 rfl 2 rfl (nl rfl) ?_
      obtain ⟨q62, hg62, hr⟩ := bnd hr
      refine k_V (ci := 12) (o := a0) (T := TX12) (as := []) (rest := []) (X := (some (0, q62.1), q62.2)) (oX12_whyCommit hg62) gX12_whyCommit rfl (by decide) rfl (wsl_50 _ (List.mem_of_getElem? (i := 15) rfl)) rfl dX12_drawDeed_62 rfl ?_
      refine r_if_ne dX12_drawDeed_65 (tgt := 75) (by decide) (fun hc => ?_) (fun hc => ?_)
      · have hr := ifn hr hc
        refine r_aload_n dX12_drawDeed_75 rfl 2 rfl (nl rfl) ?_
        obtain ⟨h76, hg76, hr⟩ := bnd hr
        refine k_V (ci := 12) (o := a0) (T := TX12) (as := []) (rest := []) (X := (none, h76)) (oX12_backs hg76) gX12_backs rfl (by decide) rfl (wsl_51 _ (List.mem_of_getElem? (i := 16) rfl)) rfl dX12_drawDeed_76 rfl ?_
        refine r_iconst dX12_drawDeed_79 (by decide) ?_
        refine r_scast 0 (v := (0, 1)) (w := (2, 1)) rfl cz (fun _ => Or.inr rfl) (st' := [(2, 1)]) rfl ?_
        obtain rfl := Option.some.inj hr
        exact r_ret dX12_drawDeed_80 rfl (Or.inr ⟨rfl, rfl⟩) (k0 _ hk) ⟨rfl, rfl⟩
      · have hr := ifp hr hc
        refine r_aload_n dX12_drawDeed_68 rfl 2 rfl (nl rfl) ?_
        obtain ⟨h69, hg69, hr⟩ := bnd hr
        refine k_V (ci := 12) (o := a0) (T := TX12) (as := []) (rest := []) (X := (none, h69)) (oX12_commits hg69) gX12_commits rfl (by decide) rfl (wsl_50 _ (List.mem_of_getElem? (i := 19) rfl)) rfl dX12_drawDeed_69 rfl ?_
        refine r_goto dX12_drawDeed_72 (tgt := 79) (by decide) ?_
        refine r_iconst dX12_drawDeed_79 (by decide) ?_
        refine r_scast 0 (v := (0, 1)) (w := (2, 1)) rfl cz (fun _ => Or.inr rfl) (st' := [(2, 1)]) rfl ?_
        obtain rfl := Option.some.inj hr
        exact r_ret dX12_drawDeed_80 rfl (Or.inr ⟨rfl, rfl⟩) (k0 _ hk) ⟨rfl, rfl⟩
    · have hr := ifp hr hc
      refine r_aload_n dX12_drawDeed_54 rfl 2 rfl (nl rfl) ?_
      obtain ⟨h55, hg55, hr⟩ := bnd hr
      refine k_V (ci := 12) (o := a0) (T := TX12) (as := []) (rest := []) (X := (none, h55)) (oX12_begins hg55) gX12_begins rfl (by decide) rfl (wsl_50 _ (List.mem_of_getElem? (i := 1) rfl)) rfl dX12_drawDeed_55 rfl ?_
      refine r_goto dX12_drawDeed_58 (tgt := 79) (by decide) ?_
      refine r_iconst dX12_drawDeed_79 (by decide) ?_
      refine r_scast 0 (v := (0, 1)) (w := (2, 1)) rfl cz (fun _ => Or.inr rfl) (st' := [(2, 1)]) rfl ?_
      obtain rfl := Option.some.inj hr
      exact r_ret dX12_drawDeed_80 rfl (Or.inr ⟨rfl, rfl⟩) (k0 _ hk) ⟨rfl, rfl⟩
  · have hr := ifp hr hc
    refine r_aload_n dX12_drawDeed_23 rfl 2 rfl (nl rfl) ?_
    refine r_iload_n dX12_drawDeed_24 rfl 1 rfl (Or.inl rfl) ?_
    refine r_iload_n dX12_drawDeed_25 rfl 0 rfl (Or.inl rfl) ?_
    obtain ⟨h26, hg26, hr⟩ := bnd hr
    refine k_V (ci := 12) (o := a0) (T := TX12) (as := [(0, q3.1), (0, q14.1)]) (rest := []) (X := (none, h26)) (oX12_drawsLine hg26) gX12_drawsLine rfl (by decide) rfl (wsl_64 _ (List.mem_of_getElem? (i := 22) rfl)) rfl dX12_drawDeed_26 rfl ?_
    refine r_aload_n dX12_drawDeed_29 rfl 2 rfl (nl rfl) ?_
    refine r_iconst dX12_drawDeed_30 (by decide) ?_
    obtain ⟨q31, hg31, hr⟩ := bnd hr
    refine k_V (ci := 12) (o := a0) (T := TX12) (as := [(0, 0)]) (rest := []) (X := (some (0, q31.1), q31.2)) (oX12_judges hg31) gX12_judges rfl (by decide) rfl (wsl_41 _ (List.mem_of_getElem? (i := 23) rfl)) rfl dX12_drawDeed_31 rfl ?_
    refine r_if_ne dX12_drawDeed_34 (tgt := 41) (by decide) (fun hc => ?_) (fun hc => ?_)
    · have hr := ifn hr hc
      refine r_iconst dX12_drawDeed_41 (by decide) ?_
      refine r_scast 0 (v := (0, 0)) (w := (2, 0)) rfl cz (fun _ => Or.inl rfl) (st' := [(2, 0)]) rfl ?_
      obtain rfl := Option.some.inj hr
      exact r_ret dX12_drawDeed_42 rfl (Or.inr ⟨rfl, rfl⟩) (k0 _ hk) ⟨rfl, rfl⟩
    · have hr := ifp hr hc
      refine r_iconst dX12_drawDeed_37 (by decide) ?_
      refine r_goto dX12_drawDeed_38 (tgt := 42) (by decide) ?_
      refine r_scast 0 (v := (0, 1)) (w := (2, 1)) rfl cz (fun _ => Or.inr rfl) (st' := [(2, 1)]) rfl ?_
      obtain rfl := Option.some.inj hr
      exact r_ret dX12_drawDeed_42 rfl (Or.inr ⟨rfl, rfl⟩) (k0 _ hk) ⟨rfl, rfl⟩
end M_X12_drawDeed
theorem oX12_drawDeed {l : Launch} {D : va_G} {G : gG} {h : hH} {a0 : Int} {r : Int × hH} (hr : fX12_drawDeed h a0 = some r) : Ctr l D G true yX12_drawDeed M_X12_drawDeed [(22, a0)] h (some (2, r.1), r.2) :=
  Ctr_of (by decide) rfl (fun z => by cases z) (nl rfl) (fun {p e R s m args below meth c A H0} => by
    exact oX12_drawDeed_b0 (K := fun z9 => z9 = r) (fun r9 z => by rw [z]) hr rfl)
/-! X12_drawn -/
theorem dX12_drawn_0 : decode cX12_drawn 0 = .ok (.aload_n 0, 1) := by decide +kernel
theorem dX12_drawn_1 : decode cX12_drawn 1 = .ok (.iconst 0, 1) := by decide +kernel
theorem dX12_drawn_2 : decode cX12_drawn 2 = .ok (.putfield 1, 3) := by decide +kernel
theorem dX12_drawn_5 : decode cX12_drawn 5 = .ok (.iload_n 1, 1) := by decide +kernel
theorem dX12_drawn_6 : decode cX12_drawn 6 = .ok (.iconst 1, 1) := by decide +kernel
theorem dX12_drawn_7 : decode cX12_drawn 7 = .ok (.bipush 40, 2) := by decide +kernel
theorem dX12_drawn_9 : decode cX12_drawn 9 = .ok (.invokestatic 229, 3) := by decide +kernel
theorem dX12_drawn_12 : decode cX12_drawn 12 = .ok (.ifCond .ne 5, 3) := by decide +kernel
theorem dX12_drawn_15 : decode cX12_drawn 15 = .ok (.iconst (-1), 1) := by decide +kernel
theorem dX12_drawn_16 : decode cX12_drawn 16 = .ok (.ireturn, 1) := by decide +kernel
theorem dX12_drawn_17 : decode cX12_drawn 17 = .ok (.aload_n 0, 1) := by decide +kernel
theorem dX12_drawn_18 : decode cX12_drawn 18 = .ok (.getfield 33, 3) := by decide +kernel
theorem dX12_drawn_21 : decode cX12_drawn 21 = .ok (.iconst 0, 1) := by decide +kernel
theorem dX12_drawn_22 : decode cX12_drawn 22 = .ok (.iaload, 1) := by decide +kernel
theorem dX12_drawn_23 : decode cX12_drawn 23 = .ok (.ifCond .ne 5, 3) := by decide +kernel
theorem dX12_drawn_26 : decode cX12_drawn 26 = .ok (.iconst 0, 1) := by decide +kernel
theorem dX12_drawn_27 : decode cX12_drawn 27 = .ok (.ireturn, 1) := by decide +kernel
theorem dX12_drawn_28 : decode cX12_drawn 28 = .ok (.aload_n 0, 1) := by decide +kernel
theorem dX12_drawn_29 : decode cX12_drawn 29 = .ok (.invokevirtual 483, 3) := by decide +kernel
theorem dX12_drawn_32 : decode cX12_drawn 32 = .ok (.aload_n 0, 1) := by decide +kernel
theorem dX12_drawn_33 : decode cX12_drawn 33 = .ok (.iload_n 2, 1) := by decide +kernel
theorem dX12_drawn_34 : decode cX12_drawn 34 = .ok (.putfield 526, 3) := by decide +kernel
theorem dX12_drawn_37 : decode cX12_drawn 37 = .ok (.iconst 0, 1) := by decide +kernel
theorem dX12_drawn_38 : decode cX12_drawn 38 = .ok (.istore_n 3, 1) := by decide +kernel
theorem dX12_drawn_39 : decode cX12_drawn 39 = .ok (.iconst 0, 1) := by decide +kernel
theorem dX12_drawn_40 : decode cX12_drawn 40 = .ok (.istore 4, 2) := by decide +kernel
theorem dX12_drawn_42 : decode cX12_drawn 42 = .ok (.iload 4, 2) := by decide +kernel
theorem dX12_drawn_44 : decode cX12_drawn 44 = .ok (.iload_n 1, 1) := by decide +kernel
theorem dX12_drawn_45 : decode cX12_drawn 45 = .ok (.if_icmp .ge 24, 3) := by decide +kernel
theorem dX12_drawn_48 : decode cX12_drawn 48 = .ok (.iload_n 3, 1) := by decide +kernel
theorem dX12_drawn_49 : decode cX12_drawn 49 = .ok (.aload_n 0, 1) := by decide +kernel
theorem dX12_drawn_50 : decode cX12_drawn 50 = .ok (.invokevirtual 537, 3) := by decide +kernel
theorem dX12_drawn_53 : decode cX12_drawn 53 = .ok (.ifCond .eq 7, 3) := by decide +kernel
theorem dX12_drawn_56 : decode cX12_drawn 56 = .ok (.iconst 1, 1) := by decide +kernel
theorem dX12_drawn_57 : decode cX12_drawn 57 = .ok (.goto 4, 3) := by decide +kernel
theorem dX12_drawn_60 : decode cX12_drawn 60 = .ok (.iconst 0, 1) := by decide +kernel
theorem dX12_drawn_61 : decode cX12_drawn 61 = .ok (.iadd, 1) := by decide +kernel
theorem dX12_drawn_62 : decode cX12_drawn 62 = .ok (.istore_n 3, 1) := by decide +kernel
theorem dX12_drawn_63 : decode cX12_drawn 63 = .ok (.iinc 4 1, 3) := by decide +kernel
theorem dX12_drawn_66 : decode cX12_drawn 66 = .ok (.goto (-24), 3) := by decide +kernel
theorem dX12_drawn_69 : decode cX12_drawn 69 = .ok (.iload_n 3, 1) := by decide +kernel
theorem dX12_drawn_70 : decode cX12_drawn 70 = .ok (.ifCond .le 11, 3) := by decide +kernel
theorem dX12_drawn_73 : decode cX12_drawn 73 = .ok (.aload_n 0, 1) := by decide +kernel
theorem dX12_drawn_74 : decode cX12_drawn 74 = .ok (.aload_n 0, 1) := by decide +kernel
theorem dX12_drawn_75 : decode cX12_drawn 75 = .ok (.getfield 92, 3) := by decide +kernel
theorem dX12_drawn_78 : decode cX12_drawn 78 = .ok (.invokevirtual 449, 3) := by decide +kernel
theorem dX12_drawn_81 : decode cX12_drawn 81 = .ok (.iload_n 3, 1) := by decide +kernel
theorem dX12_drawn_82 : decode cX12_drawn 82 = .ok (.ireturn, 1) := by decide +kernel
abbrev M_X12_drawn : mM := (cX12_drawn, 5, RX12, some .int, false, 7, 164, 0, 0)
theorem gX12_drawn : cI yX12_drawn M_X12_drawn 2 := ⟨(wsl_64 _ (List.mem_of_getElem? (i := 9) rfl)), (wsl_64 _ (List.mem_of_getElem? (i := 10) rfl)), (wsl_1 _ (List.mem_of_getElem? (i := 5) rfl)), (wsl_64 _ (List.mem_of_getElem? (i := 11) rfl)), by decide +kernel⟩
noncomputable def fX12_drawn_b61 (h : hH) (a0 a1 l4 s0 s1 : Int) : Option ((hH × Int × Int) ⊕ (Int × hH)) :=
  some (.inl (h, w32 (s1 + s0), w32 (l4 + 1)))
noncomputable def fX12_drawn_s42 (h0 : hH) (a0 a1 : Int) : hH × Int × Int → Option ((hH × Int × Int) ⊕ (Int × hH)) := fun (h, l3, l4) =>
  if l4 < a1 then
    (fX12_drawDeed h a0).bind fun q50 =>
    if q50.1 = 0 then
      fX12_drawn_b61 q50.2 a0 a1 l4 0 l3
    else
      fX12_drawn_b61 q50.2 a0 a1 l4 1 l3
  else
    if 0 < l3 then
      (fX12_stores h a0 (h a0 45)).bind fun h78 =>
      some (.inr ((l3, h78)))
    else
      some (.inr ((l3, h)))
noncomputable def fX12_drawn (h : hH) (a0 a1 a2 : Int) : Option (Int × hH) :=
  (pput h a0 0 0).bind fun h2 =>
  (fX12_isIn h2 a1 1 40).bind fun r9 =>
  if r9 = 0 then
    some (-1, h2)
  else
    (aget h2 (h2 a0 6) 0).bind fun v22 =>
    if v22 = 0 then
      some (0, h2)
    else
      (fX12_tries h2 a0).bind fun h29 =>
      (pput h29 a0 51 a2).bind fun h34 =>
      lpO (fX12_drawn_s42 h34 a0 a1) (h34, 0, 0)
section M_X12_drawn
variable {p : Program} {l : Launch} {e : Env} {R : Room} {s : State} {m : MethodId} {args : Array Value} {below : List Frame} {meth : Method} {c : Code} {D : va_G} {G : gG} {A : Nat → Prop} {H0 : Heap} {n0 : Int} {x : Option vV × hH} {h : hH}
set_option maxRecDepth 100000 in
set_option maxHeartbeats 4000000 in
theorem oX12_drawn_b61 {a0 a1 l4 s0 s1 : Int} {K : (hH × Int × Int) ⊕ (Int × hH) → Prop} (k0 : ∀ r, K (.inr (r)) → x = (some (0, r.1), r.2)) (k1 : ∀ (h : hH) (l3 : Int) (l4 : Int), K (.inl (h, l3, l4)) → Wq p l e R s m args below meth c D G A H0 true n0 M_X12_drawn x 0 0 42 [(0, (22, a0)), (1, (0, a1)), (3, (0, l3)), (4, (0, l4))] [] h) {r : (hH × Int × Int) ⊕ (Int × hH)} (hr : fX12_drawn_b61 h a0 a1 l4 s0 s1 = some r) (hk : K r) : Wq p l e R s m args below meth c D G A H0 true n0 M_X12_drawn x 0 0 61 [(0, (22, a0)), (1, (0, a1)), (4, (0, l4))] [(2, s0), (0, s1)] h := by
  unfold fX12_drawn_b61 at hr
  refine r_scast 0 (v := (2, s0)) (w := (0, s0)) rfl zc hTz (st' := [(0, s0), (0, s1)]) rfl ?_
  refine r_iadd dX12_drawn_61 ?_
  refine r_istore_n dX12_drawn_62 rfl (Or.inl rfl) (by decide) (lv' := [(3, (0, w32 (s1 + s0))), (0, (22, a0)), (1, (0, a1)), (4, (0, l4))]) rfl ?_
  refine r_iinc (k := 3) (v := l4) dX12_drawn_63 rfl (by decide) (lv' := [(4, (0, w32 (l4 + 1))), (3, (0, w32 (s1 + s0))), (0, (22, a0)), (1, (0, a1))]) rfl ?_
  refine r_goto dX12_drawn_66 (tgt := 42) (by decide) ?_
  refine r_sub [2, 3, 1, 0] (lv' := [(0, (22, a0)), (1, (0, a1)), (3, (0, w32 (s1 + s0))), (4, (0, w32 (l4 + 1)))]) rfl ?_
  obtain rfl := Option.some.inj hr
  exact k1 _ _ _ hk
set_option maxRecDepth 100000 in
set_option maxHeartbeats 4000000 in
theorem oX12_drawn_s42 {h0 : hH} {a0 a1 l3 l4 : Int} {K : (hH × Int × Int) ⊕ (Int × hH) → Prop} (k0 : ∀ r, K (.inr (r)) → x = (some (0, r.1), r.2)) (k1 : ∀ (h : hH) (l3 : Int) (l4 : Int), K (.inl (h, l3, l4)) → Wq p l e R s m args below meth c D G A H0 true n0 M_X12_drawn x 0 0 42 [(0, (22, a0)), (1, (0, a1)), (3, (0, l3)), (4, (0, l4))] [] h) {r : (hH × Int × Int) ⊕ (Int × hH)} (hr : fX12_drawn_s42 h0 a0 a1 (h, l3, l4) = some r) (hk : K r) : Wq p l e R s m args below meth c D G A H0 true n0 M_X12_drawn x 0 0 42 [(0, (22, a0)), (1, (0, a1)), (3, (0, l3)), (4, (0, l4))] [] h := by
  unfold fX12_drawn_s42 at hr
  refine r_iload dX12_drawn_42 3 rfl (Or.inl rfl) ?_
  refine r_iload_n dX12_drawn_44 rfl 1 rfl (Or.inl rfl) ?_
  refine r_icmp_ge dX12_drawn_45 (tgt := 69) (by decide) (fun hc => ?_) (fun hc => ?_)
  · have hr := ifn hr hc
    refine r_iload_n dX12_drawn_69 rfl 2 rfl (Or.inl rfl) ?_
    refine r_if_le dX12_drawn_70 (tgt := 81) (by decide) (fun hc => ?_) (fun hc => ?_)
    · have hr := ifn hr hc
      refine r_iload_n dX12_drawn_81 rfl 2 rfl (Or.inl rfl) ?_
      obtain rfl := Option.some.inj hr
      exact r_ret dX12_drawn_82 rfl (Or.inl ⟨rfl, rfl⟩) (k0 _ hk) ⟨rfl, rfl⟩
    · have hr := ifp hr hc
      refine r_aload_n dX12_drawn_73 rfl 0 rfl (nl rfl) ?_
      refine r_aload_n dX12_drawn_74 rfl 0 rfl (nl rfl) ?_
      refine r_get 12 45 (o := a0) (w := (50, h a0 45)) (T := TX12) (ref := "FollowingRefsModel") rfl (by decide) rfl (by decide) inlX12 (wsl_8 _ (List.mem_of_getElem? (i := 3) rfl)) rfl dX12_drawn_75 rfl ?_
      obtain ⟨h78, hg78, hr⟩ := bnd hr
      refine k_V (ci := 12) (o := a0) (T := TX12) (as := [(50, h a0 45)]) (rest := []) (X := (none, h78)) (oX12_stores hg78) gX12_stores rfl (by decide) rfl (wsl_46 _ (List.mem_of_getElem? (i := 18) rfl)) rfl dX12_drawn_78 rfl ?_
      refine r_iload_n dX12_drawn_81 rfl 2 rfl (Or.inl rfl) ?_
      obtain rfl := Option.some.inj hr
      exact r_ret dX12_drawn_82 rfl (Or.inl ⟨rfl, rfl⟩) (k0 _ hk) ⟨rfl, rfl⟩
  · have hr := ifp hr hc
    refine r_iload_n dX12_drawn_48 rfl 2 rfl (Or.inl rfl) ?_
    refine r_aload_n dX12_drawn_49 rfl 0 rfl (nl rfl) ?_
    obtain ⟨q50, hg50, hr⟩ := bnd hr
    refine k_V (ci := 12) (o := a0) (T := TX12) (as := []) (rest := [(0, l3)]) (X := (some (2, q50.1), q50.2)) (oX12_drawDeed hg50) gX12_drawDeed rfl (by decide) rfl (wsl_64 _ (List.mem_of_getElem? (i := 13) rfl)) rfl dX12_drawn_50 rfl ?_
    refine r_scast 0 (v := (2, q50.1)) (w := (0, q50.1)) rfl zc hTz (st' := [(0, q50.1), (0, l3)]) rfl ?_
    refine r_if_eq dX12_drawn_53 (tgt := 60) (by decide) (fun hc => ?_) (fun hc => ?_)
    · have hr := ifp hr hc
      refine r_iconst dX12_drawn_60 (by decide) ?_
      refine r_sub [0, 1, 3] (lv' := [(0, (22, a0)), (1, (0, a1)), (4, (0, l4))]) rfl ?_
      refine r_scast 0 (v := (0, 0)) (w := (2, 0)) rfl cz (fun _ => Or.inl rfl) (st' := [(2, 0), (0, l3)]) rfl ?_
      exact oX12_drawn_b61 (K := K) (fun r z => k0 r z) (fun _ _ _ z => k1 _ _ _ z) hr hk
    · have hr := ifn hr hc
      refine r_iconst dX12_drawn_56 (by decide) ?_
      refine r_goto dX12_drawn_57 (tgt := 61) (by decide) ?_
      refine r_sub [0, 1, 3] (lv' := [(0, (22, a0)), (1, (0, a1)), (4, (0, l4))]) rfl ?_
      refine r_scast 0 (v := (0, 1)) (w := (2, 1)) rfl cz (fun _ => Or.inr rfl) (st' := [(2, 1), (0, l3)]) rfl ?_
      exact oX12_drawn_b61 (K := K) (fun r z => k0 r z) (fun _ _ _ z => k1 _ _ _ z) hr hk
set_option maxRecDepth 100000 in
set_option maxHeartbeats 4000000 in
theorem oX12_drawn_b0 {a0 a1 a2 : Int} {K : Int × hH → Prop} (k0 : ∀ r, K (r) → x = (some (0, r.1), r.2)) {r : Int × hH} (hr : fX12_drawn h a0 a1 a2 = some r) (hk : K r) : Wq p l e R s m args below meth c D G A H0 true n0 M_X12_drawn x 0 0 0 [(0, (22, a0)), (1, (0, a1)), (2, (0, a2))] [] h := by
  unfold fX12_drawn at hr
  refine r_aload_n dX12_drawn_0 rfl 0 rfl (nl rfl) ?_
  refine r_iconst dX12_drawn_1 (by decide) ?_
  obtain ⟨h2, hg2, hr⟩ := bnd hr
  refine r_put' 12 0 (t := 0) (ref := "FollowingRefsModel") hg2 rfl tyX12 tyX12_ok nmX12 rfl (by decide) rfl (by decide) inlX12 (wsl_10 _ (List.mem_of_getElem? (i := 11) rfl)) rfl rfl (by decide +kernel) (by decide) rfl (Or.inl ⟨rfl, rfl⟩) dX12_drawn_2 ?_
  refine r_iload_n dX12_drawn_5 rfl 1 rfl (Or.inl rfl) ?_
  refine r_iconst dX12_drawn_6 (by decide) ?_
  refine r_bipush dX12_drawn_7 (by decide) (by decide) ?_
  obtain ⟨r9, hg9, hr⟩ := bnd hr
  refine k_S (as := [(0, a1), (0, 1), (0, 40)]) (rest := []) (X := (some (2, r9), h2)) (oX12_isIn hg9) gX12_isIn rfl (wsl_28 _ (List.mem_of_getElem? (i := 1) rfl)) rfl dX12_drawn_9 rfl ?_
  refine r_scast 0 (v := (2, r9)) (w := (0, r9)) rfl zc hTz (st' := [(0, r9)]) rfl ?_
  refine r_if_ne dX12_drawn_12 (tgt := 17) (by decide) (fun hc => ?_) (fun hc => ?_)
  · have hr := ifn hr hc
    refine r_aload_n dX12_drawn_17 rfl 0 rfl (nl rfl) ?_
    refine r_get 12 6 (o := a0) (w := (50, h2 a0 6)) (T := TX12) (ref := "FollowingRefsModel") rfl (by decide) rfl (by decide) inlX12 (wsl_7 _ (List.mem_of_getElem? (i := 8) rfl)) rfl dX12_drawn_18 rfl ?_
    refine r_iconst dX12_drawn_21 (by decide) ?_
    obtain ⟨v22, hg22, hr⟩ := bnd hr
    refine r_iald dX12_drawn_22 hg22 ?_
    refine r_if_ne dX12_drawn_23 (tgt := 28) (by decide) (fun hc => ?_) (fun hc => ?_)
    · have hr := ifn hr hc
      refine r_aload_n dX12_drawn_28 rfl 0 rfl (nl rfl) ?_
      obtain ⟨h29, hg29, hr⟩ := bnd hr
      refine k_V (ci := 12) (o := a0) (T := TX12) (as := []) (rest := []) (X := (none, h29)) (oX12_tries hg29) gX12_tries rfl (by decide) rfl (wsl_49 _ (List.mem_of_getElem? (i := 21) rfl)) rfl dX12_drawn_29 rfl ?_
      refine r_aload_n dX12_drawn_32 rfl 0 rfl (nl rfl) ?_
      refine r_iload_n dX12_drawn_33 rfl 2 rfl (Or.inl rfl) ?_
      obtain ⟨h34, hg34, hr⟩ := bnd hr
      refine r_put' 12 51 (t := 0) (ref := "FollowingRefsModel") hg34 rfl tyX12 tyX12_ok nmX12 rfl (by decide) rfl (by decide) inlX12 (wsl_64 _ (List.mem_of_getElem? (i := 12) rfl)) rfl rfl (by decide +kernel) (by decide) rfl (Or.inl ⟨rfl, rfl⟩) dX12_drawn_34 ?_
      refine r_iconst dX12_drawn_37 (by decide) ?_
      refine r_istore_n dX12_drawn_38 rfl (Or.inl rfl) (by decide) (lv' := [(3, (0, 0)), (0, (22, a0)), (1, (0, a1)), (2, (0, a2))]) rfl ?_
      refine r_iconst dX12_drawn_39 (by decide) ?_
      refine r_istore dX12_drawn_40 (Or.inl rfl) (by decide) (lv' := [(4, (0, 0)), (3, (0, 0)), (0, (22, a0)), (1, (0, a1)), (2, (0, a2))]) rfl ?_
      refine r_sub [2, 3, 1, 0] (lv' := [(0, (22, a0)), (1, (0, a1)), (3, (0, 0)), (4, (0, 0))]) rfl ?_
      exact lp_ok (w := fun (q : hH × Int × Int) => Wq p l e R s m args below meth c D G A H0 true n0 M_X12_drawn x 0 0 42 [(0, (22, a0)), (1, (0, a1)), (3, (0, q.2.1)), (4, (0, q.2.2))] [] (q.1)) (K := K) (fun ⟨q0, q1, q2⟩ r h1 h2 => oX12_drawn_s42 (K := Sum.elim (fun (q : hH × Int × Int) => Wq p l e R s m args below meth c D G A H0 true n0 M_X12_drawn x 0 0 42 [(0, (22, a0)), (1, (0, a1)), (3, (0, q.2.1)), (4, (0, q.2.2))] [] (q.1)) (K)) (fun r z => k0 r z) (fun _ _ _ z => z) h1 h2) hr hk
    · have hr := ifp hr hc
      refine r_iconst dX12_drawn_26 (by decide) ?_
      obtain rfl := Option.some.inj hr
      exact r_ret dX12_drawn_27 rfl (Or.inl ⟨rfl, rfl⟩) (k0 _ hk) ⟨rfl, rfl⟩
  · have hr := ifp hr hc
    refine r_iconst dX12_drawn_15 (by decide) ?_
    obtain rfl := Option.some.inj hr
    exact r_ret dX12_drawn_16 rfl (Or.inl ⟨rfl, rfl⟩) (k0 _ hk) ⟨rfl, rfl⟩
end M_X12_drawn
theorem oX12_drawn {l : Launch} {D : va_G} {G : gG} {h : hH} {a0 a1 a2 : Int} {r : Int × hH} (hr : fX12_drawn h a0 a1 a2 = some r) : Ctr l D G true yX12_drawn M_X12_drawn [(22, a0), (0, a1), (0, a2)] h (some (0, r.1), r.2) :=
  Ctr_of (by decide) rfl (fun z => by cases z) (nl rfl) (fun {p e R s m args below meth c A H0} => by
    exact oX12_drawn_b0 (K := fun z9 => z9 = r) (fun r9 z => by rw [z]) hr rfl)
/-! X12_bookLine -/
theorem dX12_bookLine_0 : decode cX12_bookLine 0 = .ok (.bipush 20, 2) := by decide +kernel
theorem dX12_bookLine_2 : decode cX12_bookLine 2 = .ok (.aload_n 0, 1) := by decide +kernel
theorem dX12_bookLine_3 : decode cX12_bookLine 3 = .ok (.getfield 540, 3) := by decide +kernel
theorem dX12_bookLine_6 : decode cX12_bookLine 6 = .ok (.imul, 1) := by decide +kernel
theorem dX12_bookLine_7 : decode cX12_bookLine 7 = .ok (.istore_n 1, 1) := by decide +kernel
theorem dX12_bookLine_8 : decode cX12_bookLine 8 = .ok (.aload_n 0, 1) := by decide +kernel
theorem dX12_bookLine_9 : decode cX12_bookLine 9 = .ok (.ldc2_w 165, 3) := by decide +kernel
theorem dX12_bookLine_12 : decode cX12_bookLine 12 = .ok (.invokevirtual 248, 3) := by decide +kernel
theorem dX12_bookLine_15 : decode cX12_bookLine 15 = .ok (.ifCond .ne 23, 3) := by decide +kernel
theorem dX12_bookLine_18 : decode cX12_bookLine 18 = .ok (.aload_n 0, 1) := by decide +kernel
theorem dX12_bookLine_19 : decode cX12_bookLine 19 = .ok (.ldc2_w 167, 3) := by decide +kernel
theorem dX12_bookLine_22 : decode cX12_bookLine 22 = .ok (.invokevirtual 248, 3) := by decide +kernel
theorem dX12_bookLine_25 : decode cX12_bookLine 25 = .ok (.ifCond .ne 13, 3) := by decide +kernel
theorem dX12_bookLine_28 : decode cX12_bookLine 28 = .ok (.aload_n 0, 1) := by decide +kernel
theorem dX12_bookLine_29 : decode cX12_bookLine 29 = .ok (.ldc2_w 169, 3) := by decide +kernel
theorem dX12_bookLine_32 : decode cX12_bookLine 32 = .ok (.invokevirtual 248, 3) := by decide +kernel
theorem dX12_bookLine_35 : decode cX12_bookLine 35 = .ok (.ifCond .eq 7, 3) := by decide +kernel
theorem dX12_bookLine_38 : decode cX12_bookLine 38 = .ok (.iconst 1, 1) := by decide +kernel
theorem dX12_bookLine_39 : decode cX12_bookLine 39 = .ok (.goto 4, 3) := by decide +kernel
theorem dX12_bookLine_42 : decode cX12_bookLine 42 = .ok (.iconst 0, 1) := by decide +kernel
theorem dX12_bookLine_43 : decode cX12_bookLine 43 = .ok (.istore_n 2, 1) := by decide +kernel
theorem dX12_bookLine_44 : decode cX12_bookLine 44 = .ok (.iload_n 2, 1) := by decide +kernel
theorem dX12_bookLine_45 : decode cX12_bookLine 45 = .ok (.ifCond .ne 39, 3) := by decide +kernel
theorem dX12_bookLine_48 : decode cX12_bookLine 48 = .ok (.aload_n 0, 1) := by decide +kernel
theorem dX12_bookLine_49 : decode cX12_bookLine 49 = .ok (.ldc2_w 155, 3) := by decide +kernel
theorem dX12_bookLine_52 : decode cX12_bookLine 52 = .ok (.invokevirtual 248, 3) := by decide +kernel
theorem dX12_bookLine_55 : decode cX12_bookLine 55 = .ok (.ifCond .ne 29, 3) := by decide +kernel
theorem dX12_bookLine_58 : decode cX12_bookLine 58 = .ok (.aload_n 0, 1) := by decide +kernel
theorem dX12_bookLine_59 : decode cX12_bookLine 59 = .ok (.ldc2_w 157, 3) := by decide +kernel
theorem dX12_bookLine_62 : decode cX12_bookLine 62 = .ok (.invokevirtual 248, 3) := by decide +kernel
theorem dX12_bookLine_65 : decode cX12_bookLine 65 = .ok (.ifCond .ne 19, 3) := by decide +kernel
theorem dX12_bookLine_68 : decode cX12_bookLine 68 = .ok (.aload_n 0, 1) := by decide +kernel
theorem dX12_bookLine_69 : decode cX12_bookLine 69 = .ok (.ldc2_w 163, 3) := by decide +kernel
theorem dX12_bookLine_72 : decode cX12_bookLine 72 = .ok (.invokevirtual 248, 3) := by decide +kernel
theorem dX12_bookLine_75 : decode cX12_bookLine 75 = .ok (.ifCond .ne 9, 3) := by decide +kernel
theorem dX12_bookLine_78 : decode cX12_bookLine 78 = .ok (.aload_n 0, 1) := by decide +kernel
theorem dX12_bookLine_79 : decode cX12_bookLine 79 = .ok (.iconst 1, 1) := by decide +kernel
theorem dX12_bookLine_80 : decode cX12_bookLine 80 = .ok (.invokevirtual 223, 3) := by decide +kernel
theorem dX12_bookLine_83 : decode cX12_bookLine 83 = .ok (.ireturn, 1) := by decide +kernel
theorem dX12_bookLine_84 : decode cX12_bookLine 84 = .ok (.aload_n 0, 1) := by decide +kernel
theorem dX12_bookLine_85 : decode cX12_bookLine 85 = .ok (.getfield 540, 3) := by decide +kernel
theorem dX12_bookLine_88 : decode cX12_bookLine 88 = .ok (.bipush 40, 2) := by decide +kernel
theorem dX12_bookLine_90 : decode cX12_bookLine 90 = .ok (.if_icmp .ne 9, 3) := by decide +kernel
theorem dX12_bookLine_93 : decode cX12_bookLine 93 = .ok (.aload_n 0, 1) := by decide +kernel
theorem dX12_bookLine_94 : decode cX12_bookLine 94 = .ok (.iconst 4, 1) := by decide +kernel
theorem dX12_bookLine_95 : decode cX12_bookLine 95 = .ok (.invokevirtual 223, 3) := by decide +kernel
theorem dX12_bookLine_98 : decode cX12_bookLine 98 = .ok (.ireturn, 1) := by decide +kernel
theorem dX12_bookLine_99 : decode cX12_bookLine 99 = .ok (.iload_n 2, 1) := by decide +kernel
theorem dX12_bookLine_100 : decode cX12_bookLine 100 = .ok (.ifCond .ne 9, 3) := by decide +kernel
theorem dX12_bookLine_103 : decode cX12_bookLine 103 = .ok (.aload_n 0, 1) := by decide +kernel
theorem dX12_bookLine_104 : decode cX12_bookLine 104 = .ok (.iload_n 1, 1) := by decide +kernel
theorem dX12_bookLine_105 : decode cX12_bookLine 105 = .ok (.invokevirtual 436, 3) := by decide +kernel
theorem dX12_bookLine_108 : decode cX12_bookLine 108 = .ok (.ireturn, 1) := by decide +kernel
theorem dX12_bookLine_109 : decode cX12_bookLine 109 = .ok (.aload_n 0, 1) := by decide +kernel
theorem dX12_bookLine_110 : decode cX12_bookLine 110 = .ok (.getfield 43, 3) := by decide +kernel
theorem dX12_bookLine_113 : decode cX12_bookLine 113 = .ok (.iload_n 1, 1) := by decide +kernel
theorem dX12_bookLine_114 : decode cX12_bookLine 114 = .ok (.aload_n 0, 1) := by decide +kernel
theorem dX12_bookLine_115 : decode cX12_bookLine 115 = .ok (.ldc2_w 165, 3) := by decide +kernel
theorem dX12_bookLine_118 : decode cX12_bookLine 118 = .ok (.invokevirtual 248, 3) := by decide +kernel
theorem dX12_bookLine_121 : decode cX12_bookLine 121 = .ok (.ifCond .eq 7, 3) := by decide +kernel
theorem dX12_bookLine_124 : decode cX12_bookLine 124 = .ok (.iconst 3, 1) := by decide +kernel
theorem dX12_bookLine_125 : decode cX12_bookLine 125 = .ok (.goto 18, 3) := by decide +kernel
theorem dX12_bookLine_128 : decode cX12_bookLine 128 = .ok (.aload_n 0, 1) := by decide +kernel
theorem dX12_bookLine_129 : decode cX12_bookLine 129 = .ok (.ldc2_w 167, 3) := by decide +kernel
theorem dX12_bookLine_132 : decode cX12_bookLine 132 = .ok (.invokevirtual 248, 3) := by decide +kernel
theorem dX12_bookLine_135 : decode cX12_bookLine 135 = .ok (.ifCond .eq 7, 3) := by decide +kernel
theorem dX12_bookLine_138 : decode cX12_bookLine 138 = .ok (.iconst 4, 1) := by decide +kernel
theorem dX12_bookLine_139 : decode cX12_bookLine 139 = .ok (.goto 4, 3) := by decide +kernel
theorem dX12_bookLine_142 : decode cX12_bookLine 142 = .ok (.iconst 5, 1) := by decide +kernel
theorem dX12_bookLine_143 : decode cX12_bookLine 143 = .ok (.iastore, 1) := by decide +kernel
theorem dX12_bookLine_144 : decode cX12_bookLine 144 = .ok (.aload_n 0, 1) := by decide +kernel
theorem dX12_bookLine_145 : decode cX12_bookLine 145 = .ok (.invokevirtual 226, 3) := by decide +kernel
theorem dX12_bookLine_148 : decode cX12_bookLine 148 = .ok (.iconst 1, 1) := by decide +kernel
theorem dX12_bookLine_149 : decode cX12_bookLine 149 = .ok (.ireturn, 1) := by decide +kernel
abbrev M_X12_bookLine : mM := (cX12_bookLine, 3, RX12, some .boolean, false, 7, 153, 0, 0)
theorem gX12_bookLine : cI yX12_bookLine M_X12_bookLine 0 := ⟨(wsl_65 _ (List.mem_of_getElem? (i := 20) rfl)), (wsl_65 _ (List.mem_of_getElem? (i := 21) rfl)), (wsl_1 _ (List.mem_of_getElem? (i := 5) rfl)), (wsl_65 _ (List.mem_of_getElem? (i := 22) rfl)), by decide +kernel⟩
noncomputable def fX12_bookLine_b143 (h : hH) (a0 s0 s1 s2 : Int) : Option (Int × hH) :=
  (aput h s2 s1 s0).bind fun h143 =>
  (fX12_next h143 a0).bind fun h145 =>
  some (1, h145)
noncomputable def fX12_bookLine_b84 (h : hH) (a0 l1 l2 : Int) : Option (Int × hH) :=
  if h a0 52 = 40 then
    (fX12_bad h a0 4).bind fun q95 =>
    some (q95.1, q95.2)
  else
    if l2 = 0 then
      (fX12_takesStatement h a0 l1).bind fun q105 =>
      some (q105.1, q105.2)
    else
      (fX12_isWord h a0 422608071022).bind fun r118 =>
      if r118 = 0 then
        (fX12_isWord h a0 109330228406644).bind fun r132 =>
        if r132 = 0 then
          fX12_bookLine_b143 h a0 5 l1 (h a0 9)
        else
          fX12_bookLine_b143 h a0 4 l1 (h a0 9)
      else
        fX12_bookLine_b143 h a0 3 l1 (h a0 9)
noncomputable def fX12_bookLine_b43 (h : hH) (a0 l1 s0 : Int) : Option (Int × hH) :=
  if s0 = 0 then
    (fX12_isWord h a0 115923103347316).bind fun r52 =>
    if r52 = 0 then
      (fX12_isWord h a0 110386773062757).bind fun r62 =>
      if r62 = 0 then
        (fX12_isWord h a0 7562612).bind fun r72 =>
        if r72 = 0 then
          (fX12_bad h a0 1).bind fun q80 =>
          some (q80.1, q80.2)
        else
          fX12_bookLine_b84 h a0 l1 s0
      else
        fX12_bookLine_b84 h a0 l1 s0
    else
      fX12_bookLine_b84 h a0 l1 s0
  else
    fX12_bookLine_b84 h a0 l1 s0
noncomputable def fX12_bookLine_b38 (h : hH) (a0 l1 : Int) : Option (Int × hH) :=
  fX12_bookLine_b43 h a0 l1 1
noncomputable def fX12_bookLine (h : hH) (a0 : Int) : Option (Int × hH) :=
  (fX12_isWord h a0 422608071022).bind fun r12 =>
  if r12 = 0 then
    (fX12_isWord h a0 109330228406644).bind fun r22 =>
    if r22 = 0 then
      (fX12_isWord h a0 1650549611).bind fun r32 =>
      if r32 = 0 then
        fX12_bookLine_b43 h a0 (w32 (20 * (h a0 52))) 0
      else
        fX12_bookLine_b38 h a0 (w32 (20 * (h a0 52)))
    else
      fX12_bookLine_b38 h a0 (w32 (20 * (h a0 52)))
  else
    fX12_bookLine_b38 h a0 (w32 (20 * (h a0 52)))
section M_X12_bookLine
variable {p : Program} {l : Launch} {e : Env} {R : Room} {s : State} {m : MethodId} {args : Array Value} {below : List Frame} {meth : Method} {c : Code} {D : va_G} {G : gG} {A : Nat → Prop} {H0 : Heap} {n0 : Int} {x : Option vV × hH} {h : hH}
set_option maxRecDepth 100000 in
set_option maxHeartbeats 4000000 in
theorem oX12_bookLine_b143 {a0 s0 s1 s2 : Int} {K : Int × hH → Prop} (k0 : ∀ r, K (r) → x = (some (2, r.1), r.2)) {r : Int × hH} (hr : fX12_bookLine_b143 h a0 s0 s1 s2 = some r) (hk : K r) : Wq p l e R s m args below meth c D G A H0 true n0 M_X12_bookLine x 0 0 143 [(0, (22, a0))] [(0, s0), (0, s1), (50, s2)] h := by
  unfold fX12_bookLine_b143 at hr
  obtain ⟨h143, hg143, hr⟩ := bnd hr
  refine r_iast dX12_bookLine_143 hg143 ?_
  refine r_aload_n dX12_bookLine_144 rfl 0 rfl (nl rfl) ?_
  obtain ⟨h145, hg145, hr⟩ := bnd hr
  refine k_V (ci := 12) (o := a0) (T := TX12) (as := []) (rest := []) (X := (none, h145)) (oX12_next hg145) gX12_next rfl (by decide) rfl (wsl_24 _ (List.mem_of_getElem? (i := 0) rfl)) rfl dX12_bookLine_145 rfl ?_
  refine r_iconst dX12_bookLine_148 (by decide) ?_
  refine r_scast 0 (v := (0, 1)) (w := (2, 1)) rfl cz (fun _ => Or.inr rfl) (st' := [(2, 1)]) rfl ?_
  obtain rfl := Option.some.inj hr
  exact r_ret dX12_bookLine_149 rfl (Or.inr ⟨rfl, rfl⟩) (k0 _ hk) ⟨rfl, rfl⟩
set_option maxRecDepth 100000 in
set_option maxHeartbeats 4000000 in
theorem oX12_bookLine_b84 {a0 l1 l2 : Int} {K : Int × hH → Prop} (k0 : ∀ r, K (r) → x = (some (2, r.1), r.2)) {r : Int × hH} (hr : fX12_bookLine_b84 h a0 l1 l2 = some r) (hk : K r) : Wq p l e R s m args below meth c D G A H0 true n0 M_X12_bookLine x 0 0 84 [(0, (22, a0)), (1, (0, l1)), (2, (2, l2))] [] h := by
  unfold fX12_bookLine_b84 at hr
  refine r_aload_n dX12_bookLine_84 rfl 0 rfl (nl rfl) ?_
  refine r_get 12 52 (o := a0) (w := (0, h a0 52)) (T := TX12) (ref := "FollowingRefsModel") rfl (by decide) rfl (by decide) inlX12 (wsl_65 _ (List.mem_of_getElem? (i := 17) rfl)) rfl dX12_bookLine_85 rfl ?_
  refine r_bipush dX12_bookLine_88 (by decide) (by decide) ?_
  refine r_icmp_ne dX12_bookLine_90 (tgt := 99) (by decide) (fun hc => ?_) (fun hc => ?_)
  · have hr := ifn hr hc
    refine r_iload_n dX12_bookLine_99 rfl 2 rfl (Or.inr rfl) ?_
    refine r_scast 0 (v := (2, l2)) (w := (0, l2)) rfl zc hTz (st' := [(0, l2)]) rfl ?_
    refine r_if_ne dX12_bookLine_100 (tgt := 109) (by decide) (fun hc => ?_) (fun hc => ?_)
    · have hr := ifn hr hc
      refine r_aload_n dX12_bookLine_109 rfl 0 rfl (nl rfl) ?_
      refine r_get 12 9 (o := a0) (w := (50, h a0 9)) (T := TX12) (ref := "FollowingRefsModel") rfl (by decide) rfl (by decide) inlX12 (wsl_7 _ (List.mem_of_getElem? (i := 11) rfl)) rfl dX12_bookLine_110 rfl ?_
      refine r_iload_n dX12_bookLine_113 rfl 1 rfl (Or.inl rfl) ?_
      refine r_aload_n dX12_bookLine_114 rfl 0 rfl (nl rfl) ?_
      refine r_ldc2' (v := 422608071022) dX12_bookLine_115 (by decide) (wsl_9 _ (List.mem_of_getElem? (i := 10) rfl)) ?_
      obtain ⟨r118, hg118, hr⟩ := bnd hr
      refine k_V (ci := 12) (o := a0) (T := TX12) (as := [(1, 422608071022)]) (rest := [(0, l1), (50, h a0 9)]) (X := (some (2, r118), h)) (oX12_isWord hg118) gX12_isWord rfl (by decide) rfl (wsl_24 _ (List.mem_of_getElem? (i := 22) rfl)) rfl dX12_bookLine_118 rfl ?_
      refine r_scast 0 (v := (2, r118)) (w := (0, r118)) rfl zc hTz (st' := [(0, r118), (0, l1), (50, h a0 9)]) rfl ?_
      refine r_if_eq dX12_bookLine_121 (tgt := 128) (by decide) (fun hc => ?_) (fun hc => ?_)
      · have hr := ifp hr hc
        refine r_aload_n dX12_bookLine_128 rfl 0 rfl (nl rfl) ?_
        refine r_ldc2' (v := 109330228406644) dX12_bookLine_129 (by decide) (wsl_9 _ (List.mem_of_getElem? (i := 11) rfl)) ?_
        obtain ⟨r132, hg132, hr⟩ := bnd hr
        refine k_V (ci := 12) (o := a0) (T := TX12) (as := [(1, 109330228406644)]) (rest := [(0, l1), (50, h a0 9)]) (X := (some (2, r132), h)) (oX12_isWord hg132) gX12_isWord rfl (by decide) rfl (wsl_24 _ (List.mem_of_getElem? (i := 22) rfl)) rfl dX12_bookLine_132 rfl ?_
        refine r_scast 0 (v := (2, r132)) (w := (0, r132)) rfl zc hTz (st' := [(0, r132), (0, l1), (50, h a0 9)]) rfl ?_
        refine r_if_eq dX12_bookLine_135 (tgt := 142) (by decide) (fun hc => ?_) (fun hc => ?_)
        · have hr := ifp hr hc
          refine r_iconst dX12_bookLine_142 (by decide) ?_
          refine r_sub [0] (lv' := [(0, (22, a0))]) rfl ?_
          exact oX12_bookLine_b143 (K := K) (fun r z => k0 r z) hr hk
        · have hr := ifn hr hc
          refine r_iconst dX12_bookLine_138 (by decide) ?_
          refine r_goto dX12_bookLine_139 (tgt := 143) (by decide) ?_
          refine r_sub [0] (lv' := [(0, (22, a0))]) rfl ?_
          exact oX12_bookLine_b143 (K := K) (fun r z => k0 r z) hr hk
      · have hr := ifn hr hc
        refine r_iconst dX12_bookLine_124 (by decide) ?_
        refine r_goto dX12_bookLine_125 (tgt := 143) (by decide) ?_
        refine r_sub [0] (lv' := [(0, (22, a0))]) rfl ?_
        exact oX12_bookLine_b143 (K := K) (fun r z => k0 r z) hr hk
    · have hr := ifp hr hc
      refine r_aload_n dX12_bookLine_103 rfl 0 rfl (nl rfl) ?_
      refine r_iload_n dX12_bookLine_104 rfl 1 rfl (Or.inl rfl) ?_
      obtain ⟨q105, hg105, hr⟩ := bnd hr
      refine k_V (ci := 12) (o := a0) (T := TX12) (as := [(0, l1)]) (rest := []) (X := (some (2, q105.1), q105.2)) (oX12_takesStatement hg105) gX12_takesStatement rfl (by decide) rfl (wsl_40 _ (List.mem_of_getElem? (i := 15) rfl)) rfl dX12_bookLine_105 rfl ?_
      obtain rfl := Option.some.inj hr
      exact r_ret dX12_bookLine_108 rfl (Or.inr ⟨rfl, rfl⟩) (k0 _ hk) ⟨rfl, rfl⟩
  · have hr := ifp hr hc
    refine r_aload_n dX12_bookLine_93 rfl 0 rfl (nl rfl) ?_
    refine r_iconst dX12_bookLine_94 (by decide) ?_
    obtain ⟨q95, hg95, hr⟩ := bnd hr
    refine k_V (ci := 12) (o := a0) (T := TX12) (as := [(0, 4)]) (rest := []) (X := (some (2, q95.1), q95.2)) (oX12_bad hg95) gX12_bad rfl (by decide) rfl (wsl_25 _ (List.mem_of_getElem? (i := 6) rfl)) rfl dX12_bookLine_95 rfl ?_
    obtain rfl := Option.some.inj hr
    exact r_ret dX12_bookLine_98 rfl (Or.inr ⟨rfl, rfl⟩) (k0 _ hk) ⟨rfl, rfl⟩
set_option maxRecDepth 100000 in
set_option maxHeartbeats 4000000 in
theorem oX12_bookLine_b43 {a0 l1 s0 : Int} {K : Int × hH → Prop} (k0 : ∀ r, K (r) → x = (some (2, r.1), r.2)) {r : Int × hH} (hr : fX12_bookLine_b43 h a0 l1 s0 = some r) (hk : K r) : Wq p l e R s m args below meth c D G A H0 true n0 M_X12_bookLine x 0 0 43 [(0, (22, a0)), (1, (0, l1))] [(2, s0)] h := by
  unfold fX12_bookLine_b43 at hr
  refine r_istore_n dX12_bookLine_43 rfl (Or.inr rfl) (by decide) (lv' := [(2, (2, s0)), (0, (22, a0)), (1, (0, l1))]) rfl ?_
  refine r_iload_n dX12_bookLine_44 rfl 0 rfl (Or.inr rfl) ?_
  refine r_scast 0 (v := (2, s0)) (w := (0, s0)) rfl zc hTz (st' := [(0, s0)]) rfl ?_
  refine r_if_ne dX12_bookLine_45 (tgt := 84) (by decide) (fun hc => ?_) (fun hc => ?_)
  · have hr := ifn hr hc
    refine r_sub [1, 2, 0] (lv' := [(0, (22, a0)), (1, (0, l1)), (2, (2, s0))]) rfl ?_
    exact oX12_bookLine_b84 (K := K) (fun r z => k0 r z) hr hk
  · have hr := ifp hr hc
    refine r_aload_n dX12_bookLine_48 rfl 1 rfl (nl rfl) ?_
    refine r_ldc2' (v := 115923103347316) dX12_bookLine_49 (by decide) (wsl_9 _ (List.mem_of_getElem? (i := 5) rfl)) ?_
    obtain ⟨r52, hg52, hr⟩ := bnd hr
    refine k_V (ci := 12) (o := a0) (T := TX12) (as := [(1, 115923103347316)]) (rest := []) (X := (some (2, r52), h)) (oX12_isWord hg52) gX12_isWord rfl (by decide) rfl (wsl_24 _ (List.mem_of_getElem? (i := 22) rfl)) rfl dX12_bookLine_52 rfl ?_
    refine r_scast 0 (v := (2, r52)) (w := (0, r52)) rfl zc hTz (st' := [(0, r52)]) rfl ?_
    refine r_if_ne dX12_bookLine_55 (tgt := 84) (by decide) (fun hc => ?_) (fun hc => ?_)
    · have hr := ifn hr hc
      refine r_sub [1, 2, 0] (lv' := [(0, (22, a0)), (1, (0, l1)), (2, (2, s0))]) rfl ?_
      exact oX12_bookLine_b84 (K := K) (fun r z => k0 r z) hr hk
    · have hr := ifp hr hc
      refine r_aload_n dX12_bookLine_58 rfl 1 rfl (nl rfl) ?_
      refine r_ldc2' (v := 110386773062757) dX12_bookLine_59 (by decide) (wsl_9 _ (List.mem_of_getElem? (i := 6) rfl)) ?_
      obtain ⟨r62, hg62, hr⟩ := bnd hr
      refine k_V (ci := 12) (o := a0) (T := TX12) (as := [(1, 110386773062757)]) (rest := []) (X := (some (2, r62), h)) (oX12_isWord hg62) gX12_isWord rfl (by decide) rfl (wsl_24 _ (List.mem_of_getElem? (i := 22) rfl)) rfl dX12_bookLine_62 rfl ?_
      refine r_scast 0 (v := (2, r62)) (w := (0, r62)) rfl zc hTz (st' := [(0, r62)]) rfl ?_
      refine r_if_ne dX12_bookLine_65 (tgt := 84) (by decide) (fun hc => ?_) (fun hc => ?_)
      · have hr := ifn hr hc
        refine r_sub [1, 2, 0] (lv' := [(0, (22, a0)), (1, (0, l1)), (2, (2, s0))]) rfl ?_
        exact oX12_bookLine_b84 (K := K) (fun r z => k0 r z) hr hk
      · have hr := ifp hr hc
        refine r_aload_n dX12_bookLine_68 rfl 1 rfl (nl rfl) ?_
        refine r_ldc2' (v := 7562612) dX12_bookLine_69 (by decide) (wsl_9 _ (List.mem_of_getElem? (i := 9) rfl)) ?_
        obtain ⟨r72, hg72, hr⟩ := bnd hr
        refine k_V (ci := 12) (o := a0) (T := TX12) (as := [(1, 7562612)]) (rest := []) (X := (some (2, r72), h)) (oX12_isWord hg72) gX12_isWord rfl (by decide) rfl (wsl_24 _ (List.mem_of_getElem? (i := 22) rfl)) rfl dX12_bookLine_72 rfl ?_
        refine r_scast 0 (v := (2, r72)) (w := (0, r72)) rfl zc hTz (st' := [(0, r72)]) rfl ?_
        refine r_if_ne dX12_bookLine_75 (tgt := 84) (by decide) (fun hc => ?_) (fun hc => ?_)
        · have hr := ifn hr hc
          refine r_sub [1, 2, 0] (lv' := [(0, (22, a0)), (1, (0, l1)), (2, (2, s0))]) rfl ?_
          exact oX12_bookLine_b84 (K := K) (fun r z => k0 r z) hr hk
        · have hr := ifp hr hc
          refine r_aload_n dX12_bookLine_78 rfl 1 rfl (nl rfl) ?_
          refine r_iconst dX12_bookLine_79 (by decide) ?_
          obtain ⟨q80, hg80, hr⟩ := bnd hr
          refine k_V (ci := 12) (o := a0) (T := TX12) (as := [(0, 1)]) (rest := []) (X := (some (2, q80.1), q80.2)) (oX12_bad hg80) gX12_bad rfl (by decide) rfl (wsl_25 _ (List.mem_of_getElem? (i := 6) rfl)) rfl dX12_bookLine_80 rfl ?_
          obtain rfl := Option.some.inj hr
          exact r_ret dX12_bookLine_83 rfl (Or.inr ⟨rfl, rfl⟩) (k0 _ hk) ⟨rfl, rfl⟩
set_option maxRecDepth 100000 in
set_option maxHeartbeats 4000000 in
theorem oX12_bookLine_b38 {a0 l1 : Int} {K : Int × hH → Prop} (k0 : ∀ r, K (r) → x = (some (2, r.1), r.2)) {r : Int × hH} (hr : fX12_bookLine_b38 h a0 l1 = some r) (hk : K r) : Wq p l e R s m args below meth c D G A H0 true n0 M_X12_bookLine x 0 0 38 [(0, (22, a0)), (1, (0, l1))] [] h := by
  unfold fX12_bookLine_b38 at hr
  refine r_iconst dX12_bookLine_38 (by decide) ?_
  refine r_goto dX12_bookLine_39 (tgt := 43) (by decide) ?_
  refine r_scast 0 (v := (0, 1)) (w := (2, 1)) rfl cz (fun _ => Or.inr rfl) (st' := [(2, 1)]) rfl ?_
  exact oX12_bookLine_b43 (K := K) (fun r z => k0 r z) hr hk
set_option maxRecDepth 100000 in
set_option maxHeartbeats 4000000 in
theorem oX12_bookLine_b0 {a0 : Int} {K : Int × hH → Prop} (k0 : ∀ r, K (r) → x = (some (2, r.1), r.2)) {r : Int × hH} (hr : fX12_bookLine h a0 = some r) (hk : K r) : Wq p l e R s m args below meth c D G A H0 true n0 M_X12_bookLine x 0 0 0 [(0, (22, a0))] [] h := by
  unfold fX12_bookLine at hr
  refine r_bipush dX12_bookLine_0 (by decide) (by decide) ?_
  refine r_aload_n dX12_bookLine_2 rfl 0 rfl (nl rfl) ?_
  refine r_get 12 52 (o := a0) (w := (0, h a0 52)) (T := TX12) (ref := "FollowingRefsModel") rfl (by decide) rfl (by decide) inlX12 (wsl_65 _ (List.mem_of_getElem? (i := 17) rfl)) rfl dX12_bookLine_3 rfl ?_
  refine r_imul dX12_bookLine_6 ?_
  refine r_istore_n dX12_bookLine_7 rfl (Or.inl rfl) (by decide) (lv' := [(1, (0, w32 (20 * (h a0 52)))), (0, (22, a0))]) rfl ?_
  refine r_aload_n dX12_bookLine_8 rfl 1 rfl (nl rfl) ?_
  refine r_ldc2' (v := 422608071022) dX12_bookLine_9 (by decide) (wsl_9 _ (List.mem_of_getElem? (i := 10) rfl)) ?_
  obtain ⟨r12, hg12, hr⟩ := bnd hr
  refine k_V (ci := 12) (o := a0) (T := TX12) (as := [(1, 422608071022)]) (rest := []) (X := (some (2, r12), h)) (oX12_isWord hg12) gX12_isWord rfl (by decide) rfl (wsl_24 _ (List.mem_of_getElem? (i := 22) rfl)) rfl dX12_bookLine_12 rfl ?_
  refine r_scast 0 (v := (2, r12)) (w := (0, r12)) rfl zc hTz (st' := [(0, r12)]) rfl ?_
  refine r_if_ne dX12_bookLine_15 (tgt := 38) (by decide) (fun hc => ?_) (fun hc => ?_)
  · have hr := ifn hr hc
    refine r_sub [1, 0] (lv' := [(0, (22, a0)), (1, (0, w32 (20 * (h a0 52))))]) rfl ?_
    exact oX12_bookLine_b38 (K := K) (fun r z => k0 r z) hr hk
  · have hr := ifp hr hc
    refine r_aload_n dX12_bookLine_18 rfl 1 rfl (nl rfl) ?_
    refine r_ldc2' (v := 109330228406644) dX12_bookLine_19 (by decide) (wsl_9 _ (List.mem_of_getElem? (i := 11) rfl)) ?_
    obtain ⟨r22, hg22, hr⟩ := bnd hr
    refine k_V (ci := 12) (o := a0) (T := TX12) (as := [(1, 109330228406644)]) (rest := []) (X := (some (2, r22), h)) (oX12_isWord hg22) gX12_isWord rfl (by decide) rfl (wsl_24 _ (List.mem_of_getElem? (i := 22) rfl)) rfl dX12_bookLine_22 rfl ?_
    refine r_scast 0 (v := (2, r22)) (w := (0, r22)) rfl zc hTz (st' := [(0, r22)]) rfl ?_
    refine r_if_ne dX12_bookLine_25 (tgt := 38) (by decide) (fun hc => ?_) (fun hc => ?_)
    · have hr := ifn hr hc
      refine r_sub [1, 0] (lv' := [(0, (22, a0)), (1, (0, w32 (20 * (h a0 52))))]) rfl ?_
      exact oX12_bookLine_b38 (K := K) (fun r z => k0 r z) hr hk
    · have hr := ifp hr hc
      refine r_aload_n dX12_bookLine_28 rfl 1 rfl (nl rfl) ?_
      refine r_ldc2' (v := 1650549611) dX12_bookLine_29 (by decide) (wsl_9 _ (List.mem_of_getElem? (i := 12) rfl)) ?_
      obtain ⟨r32, hg32, hr⟩ := bnd hr
      refine k_V (ci := 12) (o := a0) (T := TX12) (as := [(1, 1650549611)]) (rest := []) (X := (some (2, r32), h)) (oX12_isWord hg32) gX12_isWord rfl (by decide) rfl (wsl_24 _ (List.mem_of_getElem? (i := 22) rfl)) rfl dX12_bookLine_32 rfl ?_
      refine r_scast 0 (v := (2, r32)) (w := (0, r32)) rfl zc hTz (st' := [(0, r32)]) rfl ?_
      refine r_if_eq dX12_bookLine_35 (tgt := 42) (by decide) (fun hc => ?_) (fun hc => ?_)
      · have hr := ifp hr hc
        refine r_iconst dX12_bookLine_42 (by decide) ?_
        refine r_sub [1, 0] (lv' := [(0, (22, a0)), (1, (0, w32 (20 * (h a0 52))))]) rfl ?_
        refine r_scast 0 (v := (0, 0)) (w := (2, 0)) rfl cz (fun _ => Or.inl rfl) (st' := [(2, 0)]) rfl ?_
        exact oX12_bookLine_b43 (K := K) (fun r z => k0 r z) hr hk
      · have hr := ifn hr hc
        refine r_sub [1, 0] (lv' := [(0, (22, a0)), (1, (0, w32 (20 * (h a0 52))))]) rfl ?_
        exact oX12_bookLine_b38 (K := K) (fun r z => k0 r z) hr hk
end M_X12_bookLine
theorem oX12_bookLine {l : Launch} {D : va_G} {G : gG} {h : hH} {a0 : Int} {r : Int × hH} (hr : fX12_bookLine h a0 = some r) : Ctr l D G true yX12_bookLine M_X12_bookLine [(22, a0)] h (some (2, r.1), r.2) :=
  Ctr_of (by decide) rfl (fun z => by cases z) (nl rfl) (fun {p e R s m args below meth c A H0} => by
    exact oX12_bookLine_b0 (K := fun z9 => z9 = r) (fun r9 z => by rw [z]) hr rfl)
/-! X12_does -/
theorem dX12_does_0 : decode cX12_does 0 = .ok (.aload_n 0, 1) := by decide +kernel
theorem dX12_does_1 : decode cX12_does 1 = .ok (.getfield 43, 3) := by decide +kernel
theorem dX12_does_4 : decode cX12_does 4 = .ok (.iload_n 1, 1) := by decide +kernel
theorem dX12_does_5 : decode cX12_does 5 = .ok (.iaload, 1) := by decide +kernel
theorem dX12_does_6 : decode cX12_does 6 = .ok (.istore_n 2, 1) := by decide +kernel
theorem dX12_does_7 : decode cX12_does 7 = .ok (.iload_n 2, 1) := by decide +kernel
theorem dX12_does_8 : decode cX12_does 8 = .ok (.iconst 3, 1) := by decide +kernel
theorem dX12_does_9 : decode cX12_does 9 = .ok (.if_icmp .ge 9, 3) := by decide +kernel
theorem dX12_does_12 : decode cX12_does 12 = .ok (.aload_n 0, 1) := by decide +kernel
theorem dX12_does_13 : decode cX12_does 13 = .ok (.iload_n 1, 1) := by decide +kernel
theorem dX12_does_14 : decode cX12_does 14 = .ok (.invokevirtual 442, 3) := by decide +kernel
theorem dX12_does_17 : decode cX12_does 17 = .ok (.ireturn, 1) := by decide +kernel
theorem dX12_does_18 : decode cX12_does 18 = .ok (.iload_n 2, 1) := by decide +kernel
theorem dX12_does_19 : decode cX12_does 19 = .ok (.iconst 3, 1) := by decide +kernel
theorem dX12_does_20 : decode cX12_does 20 = .ok (.if_icmp .ne 14, 3) := by decide +kernel
theorem dX12_does_23 : decode cX12_does 23 = .ok (.aload_n 0, 1) := by decide +kernel
theorem dX12_does_24 : decode cX12_does 24 = .ok (.getfield 33, 3) := by decide +kernel
theorem dX12_does_27 : decode cX12_does 27 = .ok (.sipush 149, 3) := by decide +kernel
theorem dX12_does_30 : decode cX12_does 30 = .ok (.iaload, 1) := by decide +kernel
theorem dX12_does_31 : decode cX12_does 31 = .ok (.goto 25, 3) := by decide +kernel
theorem dX12_does_34 : decode cX12_does 34 = .ok (.iload_n 2, 1) := by decide +kernel
theorem dX12_does_35 : decode cX12_does 35 = .ok (.iconst 4, 1) := by decide +kernel
theorem dX12_does_36 : decode cX12_does 36 = .ok (.if_icmp .ne 10, 3) := by decide +kernel
theorem dX12_does_39 : decode cX12_does 39 = .ok (.aload_n 0, 1) := by decide +kernel
theorem dX12_does_40 : decode cX12_does 40 = .ok (.invokevirtual 471, 3) := by decide +kernel
theorem dX12_does_43 : decode cX12_does 43 = .ok (.goto 13, 3) := by decide +kernel
theorem dX12_does_46 : decode cX12_does 46 = .ok (.iconst 1, 1) := by decide +kernel
theorem dX12_does_47 : decode cX12_does 47 = .ok (.aload_n 0, 1) := by decide +kernel
theorem dX12_does_48 : decode cX12_does 48 = .ok (.getfield 33, 3) := by decide +kernel
theorem dX12_does_51 : decode cX12_does 51 = .ok (.sipush 149, 3) := by decide +kernel
theorem dX12_does_54 : decode cX12_does 54 = .ok (.iaload, 1) := by decide +kernel
theorem dX12_does_55 : decode cX12_does 55 = .ok (.isub, 1) := by decide +kernel
theorem dX12_does_56 : decode cX12_does 56 = .ok (.istore_n 3, 1) := by decide +kernel
theorem dX12_does_57 : decode cX12_does 57 = .ok (.iload_n 3, 1) := by decide +kernel
theorem dX12_does_58 : decode cX12_does 58 = .ok (.ifCond .le 12, 3) := by decide +kernel
theorem dX12_does_61 : decode cX12_does 61 = .ok (.iload_n 3, 1) := by decide +kernel
theorem dX12_does_62 : decode cX12_does 62 = .ok (.bipush 10, 2) := by decide +kernel
theorem dX12_does_64 : decode cX12_does 64 = .ok (.iload_n 2, 1) := by decide +kernel
theorem dX12_does_65 : decode cX12_does 65 = .ok (.iconst 2, 1) := by decide +kernel
theorem dX12_does_66 : decode cX12_does 66 = .ok (.isub, 1) := by decide +kernel
theorem dX12_does_67 : decode cX12_does 67 = .ok (.imul, 1) := by decide +kernel
theorem dX12_does_68 : decode cX12_does 68 = .ok (.iadd, 1) := by decide +kernel
theorem dX12_does_69 : decode cX12_does 69 = .ok (.ireturn, 1) := by decide +kernel
theorem dX12_does_70 : decode cX12_does 70 = .ok (.iload_n 2, 1) := by decide +kernel
theorem dX12_does_71 : decode cX12_does 71 = .ok (.iconst 3, 1) := by decide +kernel
theorem dX12_does_72 : decode cX12_does 72 = .ok (.if_icmp .ne 10, 3) := by decide +kernel
theorem dX12_does_75 : decode cX12_does 75 = .ok (.aload_n 0, 1) := by decide +kernel
theorem dX12_does_76 : decode cX12_does 76 = .ok (.invokevirtual 465, 3) := by decide +kernel
theorem dX12_does_79 : decode cX12_does 79 = .ok (.goto 19, 3) := by decide +kernel
theorem dX12_does_82 : decode cX12_does 82 = .ok (.iload_n 2, 1) := by decide +kernel
theorem dX12_does_83 : decode cX12_does 83 = .ok (.iconst 4, 1) := by decide +kernel
theorem dX12_does_84 : decode cX12_does 84 = .ok (.if_icmp .ne 10, 3) := by decide +kernel
theorem dX12_does_87 : decode cX12_does 87 = .ok (.aload_n 0, 1) := by decide +kernel
theorem dX12_does_88 : decode cX12_does 88 = .ok (.invokevirtual 477, 3) := by decide +kernel
theorem dX12_does_91 : decode cX12_does 91 = .ok (.goto 7, 3) := by decide +kernel
theorem dX12_does_94 : decode cX12_does 94 = .ok (.aload_n 0, 1) := by decide +kernel
theorem dX12_does_95 : decode cX12_does 95 = .ok (.invokevirtual 480, 3) := by decide +kernel
theorem dX12_does_98 : decode cX12_does 98 = .ok (.iconst 0, 1) := by decide +kernel
theorem dX12_does_99 : decode cX12_does 99 = .ok (.ireturn, 1) := by decide +kernel
abbrev M_X12_does : mM := (cX12_does, 4, RX12, some .int, false, 6, 142, 0, 0)
theorem gX12_does : cI yX12_does M_X12_does 1 := ⟨(wsl_66 _ (List.mem_of_getElem? (i := 0) rfl)), (wsl_66 _ (List.mem_of_getElem? (i := 1) rfl)), (wsl_1 _ (List.mem_of_getElem? (i := 5) rfl)), (wsl_66 _ (List.mem_of_getElem? (i := 2) rfl)), by decide +kernel⟩
noncomputable def fX12_does_b56 (h : hH) (a0 l2 s0 : Int) : Option (Int × hH) :=
  if 0 < s0 then
    some (w32 (s0 + (w32 (10 * (w32 (l2 - 2))))), h)
  else
    if l2 = 3 then
      (fX12_begins h a0).bind fun h76 =>
      some (0, h76)
    else
      if l2 = 4 then
        (fX12_commits h a0).bind fun h88 =>
        some (0, h88)
      else
        (fX12_backs h a0).bind fun h95 =>
        some (0, h95)
noncomputable def fX12_does (h : hH) (a0 a1 : Int) : Option (Int × hH) :=
  (aget h (h a0 9) a1).bind fun v5 =>
  if v5 < 3 then
    (fX12_judges h a0 a1).bind fun q14 =>
    some (q14.1, q14.2)
  else
    if v5 = 3 then
      (aget h (h a0 6) 149).bind fun v30 =>
      fX12_does_b56 h a0 v5 v30
    else
      if v5 = 4 then
        (fX12_whyCommit h a0).bind fun q40 =>
        fX12_does_b56 q40.2 a0 v5 q40.1
      else
        (aget h (h a0 6) 149).bind fun v54 =>
        fX12_does_b56 h a0 v5 (w32 (1 - v54))
section M_X12_does
variable {p : Program} {l : Launch} {e : Env} {R : Room} {s : State} {m : MethodId} {args : Array Value} {below : List Frame} {meth : Method} {c : Code} {D : va_G} {G : gG} {A : Nat → Prop} {H0 : Heap} {n0 : Int} {x : Option vV × hH} {h : hH}
set_option maxRecDepth 100000 in
set_option maxHeartbeats 4000000 in
theorem oX12_does_b56 {a0 l2 s0 : Int} {K : Int × hH → Prop} (k0 : ∀ r, K (r) → x = (some (0, r.1), r.2)) {r : Int × hH} (hr : fX12_does_b56 h a0 l2 s0 = some r) (hk : K r) : Wq p l e R s m args below meth c D G A H0 true n0 M_X12_does x 0 0 56 [(0, (22, a0)), (2, (0, l2))] [(0, s0)] h := by
  unfold fX12_does_b56 at hr
  refine r_istore_n dX12_does_56 rfl (Or.inl rfl) (by decide) (lv' := [(3, (0, s0)), (0, (22, a0)), (2, (0, l2))]) rfl ?_
  refine r_iload_n dX12_does_57 rfl 0 rfl (Or.inl rfl) ?_
  refine r_if_le dX12_does_58 (tgt := 70) (by decide) (fun hc => ?_) (fun hc => ?_)
  · have hr := ifn hr hc
    refine r_iload_n dX12_does_70 rfl 2 rfl (Or.inl rfl) ?_
    refine r_iconst dX12_does_71 (by decide) ?_
    refine r_icmp_ne dX12_does_72 (tgt := 82) (by decide) (fun hc => ?_) (fun hc => ?_)
    · have hr := ifn hr hc
      refine r_iload_n dX12_does_82 rfl 2 rfl (Or.inl rfl) ?_
      refine r_iconst dX12_does_83 (by decide) ?_
      refine r_icmp_ne dX12_does_84 (tgt := 94) (by decide) (fun hc => ?_) (fun hc => ?_)
      · have hr := ifn hr hc
        refine r_aload_n dX12_does_94 rfl 1 rfl (nl rfl) ?_
        obtain ⟨h95, hg95, hr⟩ := bnd hr
        refine k_V (ci := 12) (o := a0) (T := TX12) (as := []) (rest := []) (X := (none, h95)) (oX12_backs hg95) gX12_backs rfl (by decide) rfl (wsl_51 _ (List.mem_of_getElem? (i := 16) rfl)) rfl dX12_does_95 rfl ?_
        refine r_iconst dX12_does_98 (by decide) ?_
        obtain rfl := Option.some.inj hr
        exact r_ret dX12_does_99 rfl (Or.inl ⟨rfl, rfl⟩) (k0 _ hk) ⟨rfl, rfl⟩
      · have hr := ifp hr hc
        refine r_aload_n dX12_does_87 rfl 1 rfl (nl rfl) ?_
        obtain ⟨h88, hg88, hr⟩ := bnd hr
        refine k_V (ci := 12) (o := a0) (T := TX12) (as := []) (rest := []) (X := (none, h88)) (oX12_commits hg88) gX12_commits rfl (by decide) rfl (wsl_50 _ (List.mem_of_getElem? (i := 19) rfl)) rfl dX12_does_88 rfl ?_
        refine r_goto dX12_does_91 (tgt := 98) (by decide) ?_
        refine r_iconst dX12_does_98 (by decide) ?_
        obtain rfl := Option.some.inj hr
        exact r_ret dX12_does_99 rfl (Or.inl ⟨rfl, rfl⟩) (k0 _ hk) ⟨rfl, rfl⟩
    · have hr := ifp hr hc
      refine r_aload_n dX12_does_75 rfl 1 rfl (nl rfl) ?_
      obtain ⟨h76, hg76, hr⟩ := bnd hr
      refine k_V (ci := 12) (o := a0) (T := TX12) (as := []) (rest := []) (X := (none, h76)) (oX12_begins hg76) gX12_begins rfl (by decide) rfl (wsl_50 _ (List.mem_of_getElem? (i := 1) rfl)) rfl dX12_does_76 rfl ?_
      refine r_goto dX12_does_79 (tgt := 98) (by decide) ?_
      refine r_iconst dX12_does_98 (by decide) ?_
      obtain rfl := Option.some.inj hr
      exact r_ret dX12_does_99 rfl (Or.inl ⟨rfl, rfl⟩) (k0 _ hk) ⟨rfl, rfl⟩
  · have hr := ifp hr hc
    refine r_iload_n dX12_does_61 rfl 0 rfl (Or.inl rfl) ?_
    refine r_bipush dX12_does_62 (by decide) (by decide) ?_
    refine r_iload_n dX12_does_64 rfl 2 rfl (Or.inl rfl) ?_
    refine r_iconst dX12_does_65 (by decide) ?_
    refine r_isub dX12_does_66 ?_
    refine r_imul dX12_does_67 ?_
    refine r_iadd dX12_does_68 ?_
    obtain rfl := Option.some.inj hr
    exact r_ret dX12_does_69 rfl (Or.inl ⟨rfl, rfl⟩) (k0 _ hk) ⟨rfl, rfl⟩
set_option maxRecDepth 100000 in
set_option maxHeartbeats 4000000 in
theorem oX12_does_b0 {a0 a1 : Int} {K : Int × hH → Prop} (k0 : ∀ r, K (r) → x = (some (0, r.1), r.2)) {r : Int × hH} (hr : fX12_does h a0 a1 = some r) (hk : K r) : Wq p l e R s m args below meth c D G A H0 true n0 M_X12_does x 0 0 0 [(0, (22, a0)), (1, (0, a1))] [] h := by
  unfold fX12_does at hr
  refine r_aload_n dX12_does_0 rfl 0 rfl (nl rfl) ?_
  refine r_get 12 9 (o := a0) (w := (50, h a0 9)) (T := TX12) (ref := "FollowingRefsModel") rfl (by decide) rfl (by decide) inlX12 (wsl_7 _ (List.mem_of_getElem? (i := 11) rfl)) rfl dX12_does_1 rfl ?_
  refine r_iload_n dX12_does_4 rfl 1 rfl (Or.inl rfl) ?_
  obtain ⟨v5, hg5, hr⟩ := bnd hr
  refine r_iald dX12_does_5 hg5 ?_
  refine r_istore_n dX12_does_6 rfl (Or.inl rfl) (by decide) (lv' := [(2, (0, v5)), (0, (22, a0)), (1, (0, a1))]) rfl ?_
  refine r_iload_n dX12_does_7 rfl 0 rfl (Or.inl rfl) ?_
  refine r_iconst dX12_does_8 (by decide) ?_
  refine r_icmp_ge dX12_does_9 (tgt := 18) (by decide) (fun hc => ?_) (fun hc => ?_)
  · have hr := ifn hr hc
    refine r_iload_n dX12_does_18 rfl 0 rfl (Or.inl rfl) ?_
    refine r_iconst dX12_does_19 (by decide) ?_
    refine r_icmp_ne dX12_does_20 (tgt := 34) (by decide) (fun hc => ?_) (fun hc => ?_)
    · have hr := ifn hr hc
      refine r_iload_n dX12_does_34 rfl 0 rfl (Or.inl rfl) ?_
      refine r_iconst dX12_does_35 (by decide) ?_
      refine r_icmp_ne dX12_does_36 (tgt := 46) (by decide) (fun hc => ?_) (fun hc => ?_)
      · have hr := ifn hr hc
        refine r_iconst dX12_does_46 (by decide) ?_
        refine r_aload_n dX12_does_47 rfl 1 rfl (nl rfl) ?_
        refine r_get 12 6 (o := a0) (w := (50, h a0 6)) (T := TX12) (ref := "FollowingRefsModel") rfl (by decide) rfl (by decide) inlX12 (wsl_7 _ (List.mem_of_getElem? (i := 8) rfl)) rfl dX12_does_48 rfl ?_
        refine r_sipush dX12_does_51 (by decide) (by decide) ?_
        obtain ⟨v54, hg54, hr⟩ := bnd hr
        refine r_iald dX12_does_54 hg54 ?_
        refine r_isub dX12_does_55 ?_
        refine r_sub [1, 0] (lv' := [(0, (22, a0)), (2, (0, v5))]) rfl ?_
        exact oX12_does_b56 (K := K) (fun r z => k0 r z) hr hk
      · have hr := ifp hr hc
        refine r_aload_n dX12_does_39 rfl 1 rfl (nl rfl) ?_
        obtain ⟨q40, hg40, hr⟩ := bnd hr
        refine k_V (ci := 12) (o := a0) (T := TX12) (as := []) (rest := []) (X := (some (0, q40.1), q40.2)) (oX12_whyCommit hg40) gX12_whyCommit rfl (by decide) rfl (wsl_50 _ (List.mem_of_getElem? (i := 15) rfl)) rfl dX12_does_40 rfl ?_
        refine r_goto dX12_does_43 (tgt := 56) (by decide) ?_
        refine r_sub [1, 0] (lv' := [(0, (22, a0)), (2, (0, v5))]) rfl ?_
        exact oX12_does_b56 (K := K) (fun r z => k0 r z) hr hk
    · have hr := ifp hr hc
      refine r_aload_n dX12_does_23 rfl 1 rfl (nl rfl) ?_
      refine r_get 12 6 (o := a0) (w := (50, h a0 6)) (T := TX12) (ref := "FollowingRefsModel") rfl (by decide) rfl (by decide) inlX12 (wsl_7 _ (List.mem_of_getElem? (i := 8) rfl)) rfl dX12_does_24 rfl ?_
      refine r_sipush dX12_does_27 (by decide) (by decide) ?_
      obtain ⟨v30, hg30, hr⟩ := bnd hr
      refine r_iald dX12_does_30 hg30 ?_
      refine r_goto dX12_does_31 (tgt := 56) (by decide) ?_
      refine r_sub [1, 0] (lv' := [(0, (22, a0)), (2, (0, v5))]) rfl ?_
      exact oX12_does_b56 (K := K) (fun r z => k0 r z) hr hk
  · have hr := ifp hr hc
    refine r_aload_n dX12_does_12 rfl 1 rfl (nl rfl) ?_
    refine r_iload_n dX12_does_13 rfl 2 rfl (Or.inl rfl) ?_
    obtain ⟨q14, hg14, hr⟩ := bnd hr
    refine k_V (ci := 12) (o := a0) (T := TX12) (as := [(0, a1)]) (rest := []) (X := (some (0, q14.1), q14.2)) (oX12_judges hg14) gX12_judges rfl (by decide) rfl (wsl_41 _ (List.mem_of_getElem? (i := 23) rfl)) rfl dX12_does_14 rfl ?_
    obtain rfl := Option.some.inj hr
    exact r_ret dX12_does_17 rfl (Or.inl ⟨rfl, rfl⟩) (k0 _ hk) ⟨rfl, rfl⟩
end M_X12_does
theorem oX12_does {l : Launch} {D : va_G} {G : gG} {h : hH} {a0 a1 : Int} {r : Int × hH} (hr : fX12_does h a0 a1 = some r) : Ctr l D G true yX12_does M_X12_does [(22, a0), (0, a1)] h (some (0, r.1), r.2) :=
  Ctr_of (by decide) rfl (fun z => by cases z) (nl rfl) (fun {p e R s m args below meth c A H0} => by
    exact oX12_does_b0 (K := fun z9 => z9 = r) (fun r9 z => by rw [z]) hr rfl)
/-! X12_book -/
theorem dX12_book_0 : decode cX12_book 0 = .ok (.aload_n 0, 1) := by decide +kernel
theorem dX12_book_1 : decode cX12_book 1 = .ok (.iconst 0, 1) := by decide +kernel
theorem dX12_book_2 : decode cX12_book 2 = .ok (.putfield 1, 3) := by decide +kernel
theorem dX12_book_5 : decode cX12_book 5 = .ok (.iload_n 1, 1) := by decide +kernel
theorem dX12_book_6 : decode cX12_book 6 = .ok (.iconst 0, 1) := by decide +kernel
theorem dX12_book_7 : decode cX12_book 7 = .ok (.iconst 1, 1) := by decide +kernel
theorem dX12_book_8 : decode cX12_book 8 = .ok (.invokestatic 229, 3) := by decide +kernel
theorem dX12_book_11 : decode cX12_book 11 = .ok (.ifCond .ne 7, 3) := by decide +kernel
theorem dX12_book_14 : decode cX12_book 14 = .ok (.sipush (-1000), 3) := by decide +kernel
theorem dX12_book_17 : decode cX12_book 17 = .ok (.ireturn, 1) := by decide +kernel
theorem dX12_book_18 : decode cX12_book 18 = .ok (.aload_n 0, 1) := by decide +kernel
theorem dX12_book_19 : decode cX12_book 19 = .ok (.sipush 400, 3) := by decide +kernel
theorem dX12_book_22 : decode cX12_book 22 = .ok (.invokevirtual 302, 3) := by decide +kernel
theorem dX12_book_25 : decode cX12_book 25 = .ok (.aload_n 0, 1) := by decide +kernel
theorem dX12_book_26 : decode cX12_book 26 = .ok (.iconst 0, 1) := by decide +kernel
theorem dX12_book_27 : decode cX12_book 27 = .ok (.putfield 214, 3) := by decide +kernel
theorem dX12_book_30 : decode cX12_book 30 = .ok (.aload_n 0, 1) := by decide +kernel
theorem dX12_book_31 : decode cX12_book 31 = .ok (.iconst 0, 1) := by decide +kernel
theorem dX12_book_32 : decode cX12_book 32 = .ok (.putfield 540, 3) := by decide +kernel
theorem dX12_book_35 : decode cX12_book 35 = .ok (.aload_n 0, 1) := by decide +kernel
theorem dX12_book_36 : decode cX12_book 36 = .ok (.invokevirtual 226, 3) := by decide +kernel
theorem dX12_book_39 : decode cX12_book 39 = .ok (.aload_n 0, 1) := by decide +kernel
theorem dX12_book_40 : decode cX12_book 40 = .ok (.getfield 197, 3) := by decide +kernel
theorem dX12_book_43 : decode cX12_book 43 = .ok (.ifCond .eq 40, 3) := by decide +kernel
theorem dX12_book_46 : decode cX12_book 46 = .ok (.aload_n 0, 1) := by decide +kernel
theorem dX12_book_47 : decode cX12_book 47 = .ok (.invokevirtual 543, 3) := by decide +kernel
theorem dX12_book_50 : decode cX12_book 50 = .ok (.ifCond .eq 12, 3) := by decide +kernel
theorem dX12_book_53 : decode cX12_book 53 = .ok (.aload_n 0, 1) := by decide +kernel
theorem dX12_book_54 : decode cX12_book 54 = .ok (.bipush 59, 2) := by decide +kernel
theorem dX12_book_56 : decode cX12_book 56 = .ok (.invokevirtual 311, 3) := by decide +kernel
theorem dX12_book_59 : decode cX12_book 59 = .ok (.ifCond .ne 11, 3) := by decide +kernel
theorem dX12_book_62 : decode cX12_book 62 = .ok (.bipush (-2), 2) := by decide +kernel
theorem dX12_book_64 : decode cX12_book 64 = .ok (.aload_n 0, 1) := by decide +kernel
theorem dX12_book_65 : decode cX12_book 65 = .ok (.getfield 217, 3) := by decide +kernel
theorem dX12_book_68 : decode cX12_book 68 = .ok (.isub, 1) := by decide +kernel
theorem dX12_book_69 : decode cX12_book 69 = .ok (.ireturn, 1) := by decide +kernel
theorem dX12_book_70 : decode cX12_book 70 = .ok (.aload_n 0, 1) := by decide +kernel
theorem dX12_book_71 : decode cX12_book 71 = .ok (.dup, 1) := by decide +kernel
theorem dX12_book_72 : decode cX12_book 72 = .ok (.getfield 540, 3) := by decide +kernel
theorem dX12_book_75 : decode cX12_book 75 = .ok (.iconst 1, 1) := by decide +kernel
theorem dX12_book_76 : decode cX12_book 76 = .ok (.iadd, 1) := by decide +kernel
theorem dX12_book_77 : decode cX12_book 77 = .ok (.putfield 540, 3) := by decide +kernel
theorem dX12_book_80 : decode cX12_book 80 = .ok (.goto (-41), 3) := by decide +kernel
theorem dX12_book_83 : decode cX12_book 83 = .ok (.iconst 0, 1) := by decide +kernel
theorem dX12_book_84 : decode cX12_book 84 = .ok (.istore_n 2, 1) := by decide +kernel
theorem dX12_book_85 : decode cX12_book 85 = .ok (.iload_n 2, 1) := by decide +kernel
theorem dX12_book_86 : decode cX12_book 86 = .ok (.sipush 1091, 3) := by decide +kernel
theorem dX12_book_89 : decode cX12_book 89 = .ok (.if_icmp .ge 25, 3) := by decide +kernel
theorem dX12_book_92 : decode cX12_book 92 = .ok (.aload_n 0, 1) := by decide +kernel
theorem dX12_book_93 : decode cX12_book 93 = .ok (.getfield 110, 3) := by decide +kernel
theorem dX12_book_96 : decode cX12_book 96 = .ok (.iload_n 2, 1) := by decide +kernel
theorem dX12_book_97 : decode cX12_book 97 = .ok (.aload_n 0, 1) := by decide +kernel
theorem dX12_book_98 : decode cX12_book 98 = .ok (.getfield 33, 3) := by decide +kernel
theorem dX12_book_101 : decode cX12_book 101 = .ok (.sipush 148, 3) := by decide +kernel
theorem dX12_book_104 : decode cX12_book 104 = .ok (.iload_n 2, 1) := by decide +kernel
theorem dX12_book_105 : decode cX12_book 105 = .ok (.iadd, 1) := by decide +kernel
theorem dX12_book_106 : decode cX12_book 106 = .ok (.iaload, 1) := by decide +kernel
theorem dX12_book_107 : decode cX12_book 107 = .ok (.iastore, 1) := by decide +kernel
theorem dX12_book_108 : decode cX12_book 108 = .ok (.iinc 2 1, 3) := by decide +kernel
theorem dX12_book_111 : decode cX12_book 111 = .ok (.goto (-26), 3) := by decide +kernel
theorem dX12_book_114 : decode cX12_book 114 = .ok (.iconst 0, 1) := by decide +kernel
theorem dX12_book_115 : decode cX12_book 115 = .ok (.istore_n 2, 1) := by decide +kernel
theorem dX12_book_116 : decode cX12_book 116 = .ok (.iload_n 2, 1) := by decide +kernel
theorem dX12_book_117 : decode cX12_book 117 = .ok (.iconst 4, 1) := by decide +kernel
theorem dX12_book_118 : decode cX12_book 118 = .ok (.if_icmp .ge 16, 3) := by decide +kernel
theorem dX12_book_121 : decode cX12_book 121 = .ok (.aload_n 0, 1) := by decide +kernel
theorem dX12_book_122 : decode cX12_book 122 = .ok (.getfield 107, 3) := by decide +kernel
theorem dX12_book_125 : decode cX12_book 125 = .ok (.iload_n 2, 1) := by decide +kernel
theorem dX12_book_126 : decode cX12_book 126 = .ok (.iconst 0, 1) := by decide +kernel
theorem dX12_book_127 : decode cX12_book 127 = .ok (.iastore, 1) := by decide +kernel
theorem dX12_book_128 : decode cX12_book 128 = .ok (.iinc 2 1, 3) := by decide +kernel
theorem dX12_book_131 : decode cX12_book 131 = .ok (.goto (-15), 3) := by decide +kernel
theorem dX12_book_134 : decode cX12_book 134 = .ok (.iconst (-1), 1) := by decide +kernel
theorem dX12_book_135 : decode cX12_book 135 = .ok (.istore_n 2, 1) := by decide +kernel
theorem dX12_book_136 : decode cX12_book 136 = .ok (.iconst 0, 1) := by decide +kernel
theorem dX12_book_137 : decode cX12_book 137 = .ok (.istore_n 3, 1) := by decide +kernel
theorem dX12_book_138 : decode cX12_book 138 = .ok (.iload_n 3, 1) := by decide +kernel
theorem dX12_book_139 : decode cX12_book 139 = .ok (.aload_n 0, 1) := by decide +kernel
theorem dX12_book_140 : decode cX12_book 140 = .ok (.getfield 540, 3) := by decide +kernel
theorem dX12_book_143 : decode cX12_book 143 = .ok (.if_icmp .ge 51, 3) := by decide +kernel
theorem dX12_book_146 : decode cX12_book 146 = .ok (.iload_n 2, 1) := by decide +kernel
theorem dX12_book_147 : decode cX12_book 147 = .ok (.ifCond .ge 47, 3) := by decide +kernel
theorem dX12_book_150 : decode cX12_book 150 = .ok (.aload_n 0, 1) := by decide +kernel
theorem dX12_book_151 : decode cX12_book 151 = .ok (.getfield 107, 3) := by decide +kernel
theorem dX12_book_154 : decode cX12_book 154 = .ok (.iconst 0, 1) := by decide +kernel
theorem dX12_book_155 : decode cX12_book 155 = .ok (.aload_n 0, 1) := by decide +kernel
theorem dX12_book_156 : decode cX12_book 156 = .ok (.bipush 20, 2) := by decide +kernel
theorem dX12_book_158 : decode cX12_book 158 = .ok (.iload_n 3, 1) := by decide +kernel
theorem dX12_book_159 : decode cX12_book 159 = .ok (.imul, 1) := by decide +kernel
theorem dX12_book_160 : decode cX12_book 160 = .ok (.invokevirtual 546, 3) := by decide +kernel
theorem dX12_book_163 : decode cX12_book 163 = .ok (.iastore, 1) := by decide +kernel
theorem dX12_book_164 : decode cX12_book 164 = .ok (.aload_n 0, 1) := by decide +kernel
theorem dX12_book_165 : decode cX12_book 165 = .ok (.getfield 107, 3) := by decide +kernel
theorem dX12_book_168 : decode cX12_book 168 = .ok (.iconst 0, 1) := by decide +kernel
theorem dX12_book_169 : decode cX12_book 169 = .ok (.iaload, 1) := by decide +kernel
theorem dX12_book_170 : decode cX12_book 170 = .ok (.ifCond .le 8, 3) := by decide +kernel
theorem dX12_book_173 : decode cX12_book 173 = .ok (.iload_n 3, 1) := by decide +kernel
theorem dX12_book_174 : decode cX12_book 174 = .ok (.istore_n 2, 1) := by decide +kernel
theorem dX12_book_175 : decode cX12_book 175 = .ok (.goto 13, 3) := by decide +kernel
theorem dX12_book_178 : decode cX12_book 178 = .ok (.aload_n 0, 1) := by decide +kernel
theorem dX12_book_179 : decode cX12_book 179 = .ok (.getfield 107, 3) := by decide +kernel
theorem dX12_book_182 : decode cX12_book 182 = .ok (.iconst 1, 1) := by decide +kernel
theorem dX12_book_183 : decode cX12_book 183 = .ok (.dup2, 1) := by decide +kernel
theorem dX12_book_184 : decode cX12_book 184 = .ok (.iaload, 1) := by decide +kernel
theorem dX12_book_185 : decode cX12_book 185 = .ok (.iconst 1, 1) := by decide +kernel
theorem dX12_book_186 : decode cX12_book 186 = .ok (.iadd, 1) := by decide +kernel
theorem dX12_book_187 : decode cX12_book 187 = .ok (.iastore, 1) := by decide +kernel
theorem dX12_book_188 : decode cX12_book 188 = .ok (.iinc 3 1, 3) := by decide +kernel
theorem dX12_book_191 : decode cX12_book 191 = .ok (.goto (-53), 3) := by decide +kernel
theorem dX12_book_194 : decode cX12_book 194 = .ok (.aload_n 0, 1) := by decide +kernel
theorem dX12_book_195 : decode cX12_book 195 = .ok (.getfield 107, 3) := by decide +kernel
theorem dX12_book_198 : decode cX12_book 198 = .ok (.iconst 2, 1) := by decide +kernel
theorem dX12_book_199 : decode cX12_book 199 = .ok (.aload_n 0, 1) := by decide +kernel
theorem dX12_book_200 : decode cX12_book 200 = .ok (.invokevirtual 414, 3) := by decide +kernel
theorem dX12_book_203 : decode cX12_book 203 = .ok (.iastore, 1) := by decide +kernel
theorem dX12_book_204 : decode cX12_book 204 = .ok (.aload_n 0, 1) := by decide +kernel
theorem dX12_book_205 : decode cX12_book 205 = .ok (.getfield 107, 3) := by decide +kernel
theorem dX12_book_208 : decode cX12_book 208 = .ok (.iconst 3, 1) := by decide +kernel
theorem dX12_book_209 : decode cX12_book 209 = .ok (.aload_n 0, 1) := by decide +kernel
theorem dX12_book_210 : decode cX12_book 210 = .ok (.invokevirtual 486, 3) := by decide +kernel
theorem dX12_book_213 : decode cX12_book 213 = .ok (.iastore, 1) := by decide +kernel
theorem dX12_book_214 : decode cX12_book 214 = .ok (.aload_n 0, 1) := by decide +kernel
theorem dX12_book_215 : decode cX12_book 215 = .ok (.iconst 1, 1) := by decide +kernel
theorem dX12_book_216 : decode cX12_book 216 = .ok (.putfield 549, 3) := by decide +kernel
theorem dX12_book_219 : decode cX12_book 219 = .ok (.iload_n 1, 1) := by decide +kernel
theorem dX12_book_220 : decode cX12_book 220 = .ok (.iconst 1, 1) := by decide +kernel
theorem dX12_book_221 : decode cX12_book 221 = .ok (.if_icmp .ne 20, 3) := by decide +kernel
theorem dX12_book_224 : decode cX12_book 224 = .ok (.aload_n 0, 1) := by decide +kernel
theorem dX12_book_225 : decode cX12_book 225 = .ok (.getfield 107, 3) := by decide +kernel
theorem dX12_book_228 : decode cX12_book 228 = .ok (.iconst 1, 1) := by decide +kernel
theorem dX12_book_229 : decode cX12_book 229 = .ok (.iaload, 1) := by decide +kernel
theorem dX12_book_230 : decode cX12_book 230 = .ok (.ifCond .le 11, 3) := by decide +kernel
theorem dX12_book_233 : decode cX12_book 233 = .ok (.aload_n 0, 1) := by decide +kernel
theorem dX12_book_234 : decode cX12_book 234 = .ok (.aload_n 0, 1) := by decide +kernel
theorem dX12_book_235 : decode cX12_book 235 = .ok (.getfield 110, 3) := by decide +kernel
theorem dX12_book_238 : decode cX12_book 238 = .ok (.invokevirtual 449, 3) := by decide +kernel
theorem dX12_book_241 : decode cX12_book 241 = .ok (.iload_n 1, 1) := by decide +kernel
theorem dX12_book_242 : decode cX12_book 242 = .ok (.ifCond .ne 34, 3) := by decide +kernel
theorem dX12_book_245 : decode cX12_book 245 = .ok (.iconst 0, 1) := by decide +kernel
theorem dX12_book_246 : decode cX12_book 246 = .ok (.istore_n 3, 1) := by decide +kernel
theorem dX12_book_247 : decode cX12_book 247 = .ok (.iload_n 3, 1) := by decide +kernel
theorem dX12_book_248 : decode cX12_book 248 = .ok (.sipush 1091, 3) := by decide +kernel
theorem dX12_book_251 : decode cX12_book 251 = .ok (.if_icmp .ge 25, 3) := by decide +kernel
theorem dX12_book_254 : decode cX12_book 254 = .ok (.aload_n 0, 1) := by decide +kernel
theorem dX12_book_255 : decode cX12_book 255 = .ok (.getfield 33, 3) := by decide +kernel
theorem dX12_book_258 : decode cX12_book 258 = .ok (.sipush 148, 3) := by decide +kernel
theorem dX12_book_261 : decode cX12_book 261 = .ok (.iload_n 3, 1) := by decide +kernel
theorem dX12_book_262 : decode cX12_book 262 = .ok (.iadd, 1) := by decide +kernel
theorem dX12_book_263 : decode cX12_book 263 = .ok (.aload_n 0, 1) := by decide +kernel
theorem dX12_book_264 : decode cX12_book 264 = .ok (.getfield 110, 3) := by decide +kernel
theorem dX12_book_267 : decode cX12_book 267 = .ok (.iload_n 3, 1) := by decide +kernel
theorem dX12_book_268 : decode cX12_book 268 = .ok (.iaload, 1) := by decide +kernel
theorem dX12_book_269 : decode cX12_book 269 = .ok (.iastore, 1) := by decide +kernel
theorem dX12_book_270 : decode cX12_book 270 = .ok (.iinc 3 1, 3) := by decide +kernel
theorem dX12_book_273 : decode cX12_book 273 = .ok (.goto (-26), 3) := by decide +kernel
theorem dX12_book_276 : decode cX12_book 276 = .ok (.iload_n 2, 1) := by decide +kernel
theorem dX12_book_277 : decode cX12_book 277 = .ok (.ireturn, 1) := by decide +kernel
abbrev M_X12_book : mM := (cX12_book, 4, RX12, some .int, false, 8, 175, 0, 0)
theorem gX12_book : cI yX12_book M_X12_book 1 := ⟨(wsl_65 _ (List.mem_of_getElem? (i := 14) rfl)), (wsl_65 _ (List.mem_of_getElem? (i := 15) rfl)), (wsl_1 _ (List.mem_of_getElem? (i := 5) rfl)), (wsl_65 _ (List.mem_of_getElem? (i := 16) rfl)), by decide +kernel⟩
noncomputable def fX12_book_b62 (h : hH) (a0 : Int) : Option (Int × hH) :=
  some (w32 ((-2) - (h a0 17)), h)
noncomputable def fX12_book_s247 (h0 : hH) (a0 l2 : Int) : hH × Int → Option ((hH × Int) ⊕ (Int × hH)) := fun (h, l3) =>
  if l3 < 1091 then
    (aget h (h a0 54) l3).bind fun v268 =>
    (aput h (h a0 6) (w32 (148 + l3)) v268).bind fun h269 =>
    some (.inl (h269, w32 (l3 + 1)))
  else
    some (.inr ((l2, h)))
noncomputable def fX12_book_b241 (h : hH) (a0 a1 l2 : Int) : Option (Int × hH) :=
  if a1 = 0 then
    lpO (fX12_book_s247 h a0 l2) (h, 0)
  else
    some (l2, h)
noncomputable def fX12_book_b194 (h : hH) (a0 a1 l2 : Int) : Option (Int × hH) :=
  (fX12_rowsNow h a0).bind fun r200 =>
  (aput h (h a0 53) 2 r200).bind fun h203 =>
  (fX12_violationsNow h203 a0).bind fun q210 =>
  (aput q210.2 (h203 a0 53) 3 q210.1).bind fun h213 =>
  (pput h213 a0 55 1).bind fun h216 =>
  if a1 = 1 then
    (aget h216 (h216 a0 53) 1).bind fun v229 =>
    if 0 < v229 then
      (fX12_stores h216 a0 (h216 a0 54)).bind fun h238 =>
      fX12_book_b241 h238 a0 a1 l2
    else
      fX12_book_b241 h216 a0 a1 l2
  else
    fX12_book_b241 h216 a0 a1 l2
noncomputable def fX12_book_s138 (h0 : hH) (a0 a1 : Int) : hH × Int × Int → Option ((hH × Int × Int) ⊕ (Int × hH)) := fun (h, l2, l3) =>
  if l3 < h a0 52 then
    if l2 < 0 then
      (fX12_does h a0 (w32 (20 * l3))).bind fun q160 =>
      (aput q160.2 (h a0 53) 0 q160.1).bind fun h163 =>
      (aget h163 (h163 a0 53) 0).bind fun v169 =>
      if 0 < v169 then
        some (.inl (h163, l3, w32 (l3 + 1)))
      else
        (aget h163 (h163 a0 53) 1).bind fun v184 =>
        (aput h163 (h163 a0 53) 1 (w32 (v184 + 1))).bind fun h187 =>
        some (.inl (h187, l2, w32 (l3 + 1)))
    else
      (fX12_book_b194 h a0 a1 l2).map (fun z9 => .inr (z9))
  else
    (fX12_book_b194 h a0 a1 l2).map (fun z9 => .inr (z9))
noncomputable def fX12_book_s116 (h0 : hH) (a0 a1 : Int) : hH × Int → Option ((hH × Int) ⊕ (Int × hH)) := fun (h, l2) =>
  if l2 < 4 then
    (aput h (h a0 53) l2 0).bind fun h127 =>
    some (.inl (h127, w32 (l2 + 1)))
  else
    (lpO (fX12_book_s138 h a0 a1) (h, -1, 0)).map (fun z9 => .inr (z9))
noncomputable def fX12_book_s85 (h0 : hH) (a0 a1 : Int) : hH × Int → Option ((hH × Int) ⊕ (Int × hH)) := fun (h, l2) =>
  if l2 < 1091 then
    (aget h (h a0 6) (w32 (148 + l2))).bind fun v106 =>
    (aput h (h a0 54) l2 v106).bind fun h107 =>
    some (.inl (h107, w32 (l2 + 1)))
  else
    (lpO (fX12_book_s116 h a0 a1) (h, 0)).map (fun z9 => .inr (z9))
noncomputable def fX12_book_s39 (h0 : hH) (a0 a1 : Int) : hH → Option ((hH) ⊕ (Int × hH)) := fun h =>
  if h a0 12 = 0 then
    (lpO (fX12_book_s85 h a0 a1) (h, 0)).map (fun z9 => .inr (z9))
  else
    (fX12_bookLine h a0).bind fun q47 =>
    if q47.1 = 0 then
      (fX12_book_b62 q47.2 a0).map (fun z9 => .inr (z9))
    else
      (fX12_sign q47.2 a0 59).bind fun q56 =>
      if q56.1 = 0 then
        (fX12_book_b62 q56.2 a0).map (fun z9 => .inr (z9))
      else
        (pput q56.2 a0 52 (w32 ((q56.2 a0 52) + 1))).bind fun h77 =>
        some (.inl h77)
noncomputable def fX12_book (h : hH) (a0 a1 : Int) : Option (Int × hH) :=
  (pput h a0 0 0).bind fun h2 =>
  (fX12_isIn h2 a1 0 1).bind fun r8 =>
  if r8 = 0 then
    some (-1000, h2)
  else
    (fX12_taken h2 a0 400).bind fun h22 =>
    (pput h22 a0 16 0).bind fun h27 =>
    (pput h27 a0 52 0).bind fun h32 =>
    (fX12_next h32 a0).bind fun h36 =>
    lpO (fX12_book_s39 h36 a0 a1) h36
section M_X12_book
variable {p : Program} {l : Launch} {e : Env} {R : Room} {s : State} {m : MethodId} {args : Array Value} {below : List Frame} {meth : Method} {c : Code} {D : va_G} {G : gG} {A : Nat → Prop} {H0 : Heap} {n0 : Int} {x : Option vV × hH} {h : hH}
set_option maxRecDepth 100000 in
set_option maxHeartbeats 4000000 in
theorem oX12_book_b62 {a0 : Int} {K : Int × hH → Prop} (k0 : ∀ r, K (r) → x = (some (0, r.1), r.2)) {r : Int × hH} (hr : fX12_book_b62 h a0 = some r) (hk : K r) : Wq p l e R s m args below meth c D G A H0 true n0 M_X12_book x 0 0 62 [(0, (22, a0))] [] h := by
  unfold fX12_book_b62 at hr
  refine r_bipush dX12_book_62 (by decide) (by decide) ?_
  refine r_aload_n dX12_book_64 rfl 0 rfl (nl rfl) ?_
  refine r_get 12 17 (o := a0) (w := (0, h a0 17)) (T := TX12) (ref := "FollowingRefsModel") rfl (by decide) rfl (by decide) inlX12 (wsl_23 _ (List.mem_of_getElem? (i := 15) rfl)) rfl dX12_book_65 rfl ?_
  refine r_isub dX12_book_68 ?_
  obtain rfl := Option.some.inj hr
  exact r_ret dX12_book_69 rfl (Or.inl ⟨rfl, rfl⟩) (k0 _ hk) ⟨rfl, rfl⟩
set_option maxRecDepth 100000 in
set_option maxHeartbeats 4000000 in
theorem oX12_book_s247 {h0 : hH} {a0 l2 l3 : Int} {K : (hH × Int) ⊕ (Int × hH) → Prop} (k0 : ∀ r, K (.inr (r)) → x = (some (0, r.1), r.2)) (k1 : ∀ (h : hH) (l3 : Int), K (.inl (h, l3)) → Wq p l e R s m args below meth c D G A H0 true n0 M_X12_book x 0 0 247 [(0, (22, a0)), (2, (0, l2)), (3, (0, l3))] [] h) {r : (hH × Int) ⊕ (Int × hH)} (hr : fX12_book_s247 h0 a0 l2 (h, l3) = some r) (hk : K r) : Wq p l e R s m args below meth c D G A H0 true n0 M_X12_book x 0 0 247 [(0, (22, a0)), (2, (0, l2)), (3, (0, l3))] [] h := by
  unfold fX12_book_s247 at hr
  refine r_iload_n dX12_book_247 rfl 2 rfl (Or.inl rfl) ?_
  refine r_sipush dX12_book_248 (by decide) (by decide) ?_
  refine r_icmp_ge dX12_book_251 (tgt := 276) (by decide) (fun hc => ?_) (fun hc => ?_)
  · have hr := ifn hr hc
    refine r_iload_n dX12_book_276 rfl 1 rfl (Or.inl rfl) ?_
    obtain rfl := Option.some.inj hr
    exact r_ret dX12_book_277 rfl (Or.inl ⟨rfl, rfl⟩) (k0 _ hk) ⟨rfl, rfl⟩
  · have hr := ifp hr hc
    refine r_aload_n dX12_book_254 rfl 0 rfl (nl rfl) ?_
    refine r_get 12 6 (o := a0) (w := (50, h a0 6)) (T := TX12) (ref := "FollowingRefsModel") rfl (by decide) rfl (by decide) inlX12 (wsl_7 _ (List.mem_of_getElem? (i := 8) rfl)) rfl dX12_book_255 rfl ?_
    refine r_sipush dX12_book_258 (by decide) (by decide) ?_
    refine r_iload_n dX12_book_261 rfl 2 rfl (Or.inl rfl) ?_
    refine r_iadd dX12_book_262 ?_
    refine r_aload_n dX12_book_263 rfl 0 rfl (nl rfl) ?_
    refine r_get 12 54 (o := a0) (w := (50, h a0 54)) (T := TX12) (ref := "FollowingRefsModel") rfl (by decide) rfl (by decide) inlX12 (wsl_8 _ (List.mem_of_getElem? (i := 9) rfl)) rfl dX12_book_264 rfl ?_
    refine r_iload_n dX12_book_267 rfl 2 rfl (Or.inl rfl) ?_
    obtain ⟨v268, hg268, hr⟩ := bnd hr
    refine r_iald dX12_book_268 hg268 ?_
    obtain ⟨h269, hg269, hr⟩ := bnd hr
    refine r_iast dX12_book_269 hg269 ?_
    refine r_iinc (k := 2) (v := l3) dX12_book_270 rfl (by decide) (lv' := [(3, (0, w32 (l3 + 1))), (0, (22, a0)), (2, (0, l2))]) rfl ?_
    refine r_goto dX12_book_273 (tgt := 247) (by decide) ?_
    refine r_sub [1, 2, 0] (lv' := [(0, (22, a0)), (2, (0, l2)), (3, (0, w32 (l3 + 1)))]) rfl ?_
    obtain rfl := Option.some.inj hr
    exact k1 _ _ hk
set_option maxRecDepth 100000 in
set_option maxHeartbeats 4000000 in
theorem oX12_book_b241 {a0 a1 l2 : Int} {K : Int × hH → Prop} (k0 : ∀ r, K (r) → x = (some (0, r.1), r.2)) {r : Int × hH} (hr : fX12_book_b241 h a0 a1 l2 = some r) (hk : K r) : Wq p l e R s m args below meth c D G A H0 true n0 M_X12_book x 0 0 241 [(0, (22, a0)), (1, (0, a1)), (2, (0, l2))] [] h := by
  unfold fX12_book_b241 at hr
  refine r_iload_n dX12_book_241 rfl 1 rfl (Or.inl rfl) ?_
  refine r_if_ne dX12_book_242 (tgt := 276) (by decide) (fun hc => ?_) (fun hc => ?_)
  · have hr := ifn hr hc
    refine r_iload_n dX12_book_276 rfl 2 rfl (Or.inl rfl) ?_
    obtain rfl := Option.some.inj hr
    exact r_ret dX12_book_277 rfl (Or.inl ⟨rfl, rfl⟩) (k0 _ hk) ⟨rfl, rfl⟩
  · have hr := ifp hr hc
    refine r_iconst dX12_book_245 (by decide) ?_
    refine r_istore_n dX12_book_246 rfl (Or.inl rfl) (by decide) (lv' := [(3, (0, 0)), (0, (22, a0)), (1, (0, a1)), (2, (0, l2))]) rfl ?_
    refine r_sub [1, 3, 0] (lv' := [(0, (22, a0)), (2, (0, l2)), (3, (0, 0))]) rfl ?_
    exact lp_ok (w := fun (q : hH × Int) => Wq p l e R s m args below meth c D G A H0 true n0 M_X12_book x 0 0 247 [(0, (22, a0)), (2, (0, l2)), (3, (0, q.2))] [] (q.1)) (K := K) (fun ⟨q0, q1⟩ r h1 h2 => oX12_book_s247 (K := Sum.elim (fun (q : hH × Int) => Wq p l e R s m args below meth c D G A H0 true n0 M_X12_book x 0 0 247 [(0, (22, a0)), (2, (0, l2)), (3, (0, q.2))] [] (q.1)) (K)) (fun r z => k0 r z) (fun _ _ z => z) h1 h2) hr hk
set_option maxRecDepth 100000 in
set_option maxHeartbeats 4000000 in
theorem oX12_book_b194 {a0 a1 l2 : Int} {K : Int × hH → Prop} (k0 : ∀ r, K (r) → x = (some (0, r.1), r.2)) {r : Int × hH} (hr : fX12_book_b194 h a0 a1 l2 = some r) (hk : K r) : Wq p l e R s m args below meth c D G A H0 true n0 M_X12_book x 0 0 194 [(0, (22, a0)), (1, (0, a1)), (2, (0, l2))] [] h := by
  unfold fX12_book_b194 at hr
  refine r_aload_n dX12_book_194 rfl 0 rfl (nl rfl) ?_
  refine r_get 12 53 (o := a0) (w := (50, h a0 53)) (T := TX12) (ref := "FollowingRefsModel") rfl (by decide) rfl (by decide) inlX12 (wsl_8 _ (List.mem_of_getElem? (i := 8) rfl)) rfl dX12_book_195 rfl ?_
  refine r_iconst dX12_book_198 (by decide) ?_
  refine r_aload_n dX12_book_199 rfl 0 rfl (nl rfl) ?_
  obtain ⟨r200, hg200, hr⟩ := bnd hr
  refine k_V (ci := 12) (o := a0) (T := TX12) (as := []) (rest := [(0, 2), (50, h a0 53)]) (X := (some (0, r200), h)) (oX12_rowsNow hg200) gX12_rowsNow rfl (by decide) rfl (wsl_43 _ (List.mem_of_getElem? (i := 1) rfl)) rfl dX12_book_200 rfl ?_
  obtain ⟨h203, hg203, hr⟩ := bnd hr
  refine r_iast dX12_book_203 hg203 ?_
  refine r_aload_n dX12_book_204 rfl 0 rfl (nl rfl) ?_
  refine r_get 12 53 (o := a0) (w := (50, h203 a0 53)) (T := TX12) (ref := "FollowingRefsModel") rfl (by decide) rfl (by decide) inlX12 (wsl_8 _ (List.mem_of_getElem? (i := 8) rfl)) rfl dX12_book_205 rfl ?_
  refine r_iconst dX12_book_208 (by decide) ?_
  refine r_aload_n dX12_book_209 rfl 0 rfl (nl rfl) ?_
  obtain ⟨q210, hg210, hr⟩ := bnd hr
  refine k_V (ci := 12) (o := a0) (T := TX12) (as := []) (rest := [(0, 3), (50, h203 a0 53)]) (X := (some (0, q210.1), q210.2)) (oX12_violationsNow hg210) gX12_violationsNow rfl (by decide) rfl (wsl_52 _ (List.mem_of_getElem? (i := 14) rfl)) rfl dX12_book_210 rfl ?_
  obtain ⟨h213, hg213, hr⟩ := bnd hr
  refine r_iast dX12_book_213 hg213 ?_
  refine r_aload_n dX12_book_214 rfl 0 rfl (nl rfl) ?_
  refine r_iconst dX12_book_215 (by decide) ?_
  refine r_scast 0 (v := (0, 1)) (w := (2, 1)) rfl cz (fun _ => Or.inr rfl) (st' := [(2, 1), (22, a0)]) rfl ?_
  obtain ⟨h216, hg216, hr⟩ := bnd hr
  refine r_put' 12 55 (t := 2) (ref := "FollowingRefsModel") hg216 rfl tyX12 tyX12_ok nmX12 rfl (by decide) rfl (by decide) inlX12 (wsl_65 _ (List.mem_of_getElem? (i := 18) rfl)) rfl rfl (by decide +kernel) (by decide) rfl (Or.inr (Or.inr (Or.inl ⟨rfl, rfl⟩))) dX12_book_216 ?_
  refine r_iload_n dX12_book_219 rfl 1 rfl (Or.inl rfl) ?_
  refine r_iconst dX12_book_220 (by decide) ?_
  refine r_icmp_ne dX12_book_221 (tgt := 241) (by decide) (fun hc => ?_) (fun hc => ?_)
  · have hr := ifn hr hc
    exact oX12_book_b241 (K := K) (fun r z => k0 r z) hr hk
  · have hr := ifp hr hc
    refine r_aload_n dX12_book_224 rfl 0 rfl (nl rfl) ?_
    refine r_get 12 53 (o := a0) (w := (50, h216 a0 53)) (T := TX12) (ref := "FollowingRefsModel") rfl (by decide) rfl (by decide) inlX12 (wsl_8 _ (List.mem_of_getElem? (i := 8) rfl)) rfl dX12_book_225 rfl ?_
    refine r_iconst dX12_book_228 (by decide) ?_
    obtain ⟨v229, hg229, hr⟩ := bnd hr
    refine r_iald dX12_book_229 hg229 ?_
    refine r_if_le dX12_book_230 (tgt := 241) (by decide) (fun hc => ?_) (fun hc => ?_)
    · have hr := ifn hr hc
      exact oX12_book_b241 (K := K) (fun r z => k0 r z) hr hk
    · have hr := ifp hr hc
      refine r_aload_n dX12_book_233 rfl 0 rfl (nl rfl) ?_
      refine r_aload_n dX12_book_234 rfl 0 rfl (nl rfl) ?_
      refine r_get 12 54 (o := a0) (w := (50, h216 a0 54)) (T := TX12) (ref := "FollowingRefsModel") rfl (by decide) rfl (by decide) inlX12 (wsl_8 _ (List.mem_of_getElem? (i := 9) rfl)) rfl dX12_book_235 rfl ?_
      obtain ⟨h238, hg238, hr⟩ := bnd hr
      refine k_V (ci := 12) (o := a0) (T := TX12) (as := [(50, h216 a0 54)]) (rest := []) (X := (none, h238)) (oX12_stores hg238) gX12_stores rfl (by decide) rfl (wsl_46 _ (List.mem_of_getElem? (i := 18) rfl)) rfl dX12_book_238 rfl ?_
      exact oX12_book_b241 (K := K) (fun r z => k0 r z) hr hk
set_option maxRecDepth 100000 in
set_option maxHeartbeats 4000000 in
theorem oX12_book_s138 {h0 : hH} {a0 a1 l2 l3 : Int} {K : (hH × Int × Int) ⊕ (Int × hH) → Prop} (k0 : ∀ r, K (.inr (r)) → x = (some (0, r.1), r.2)) (k1 : ∀ (h : hH) (l2 : Int) (l3 : Int), K (.inl (h, l2, l3)) → Wq p l e R s m args below meth c D G A H0 true n0 M_X12_book x 0 0 138 [(0, (22, a0)), (1, (0, a1)), (2, (0, l2)), (3, (0, l3))] [] h) {r : (hH × Int × Int) ⊕ (Int × hH)} (hr : fX12_book_s138 h0 a0 a1 (h, l2, l3) = some r) (hk : K r) : Wq p l e R s m args below meth c D G A H0 true n0 M_X12_book x 0 0 138 [(0, (22, a0)), (1, (0, a1)), (2, (0, l2)), (3, (0, l3))] [] h := by
  unfold fX12_book_s138 at hr
  refine r_iload_n dX12_book_138 rfl 3 rfl (Or.inl rfl) ?_
  refine r_aload_n dX12_book_139 rfl 0 rfl (nl rfl) ?_
  refine r_get 12 52 (o := a0) (w := (0, h a0 52)) (T := TX12) (ref := "FollowingRefsModel") rfl (by decide) rfl (by decide) inlX12 (wsl_65 _ (List.mem_of_getElem? (i := 17) rfl)) rfl dX12_book_140 rfl ?_
  refine r_icmp_ge dX12_book_143 (tgt := 194) (by decide) (fun hc => ?_) (fun hc => ?_)
  · have hr := ifn hr hc
    refine r_sub [0, 1, 2] (lv' := [(0, (22, a0)), (1, (0, a1)), (2, (0, l2))]) rfl ?_
    obtain ⟨r9, hr9, rfl⟩ := mpp hr
    exact oX12_book_b194 (K := fun z9 => K (.inr (z9))) (fun r z => k0 r z) hr9 hk
  · have hr := ifp hr hc
    refine r_iload_n dX12_book_146 rfl 2 rfl (Or.inl rfl) ?_
    refine r_if_ge dX12_book_147 (tgt := 194) (by decide) (fun hc => ?_) (fun hc => ?_)
    · have hr := ifn hr hc
      refine r_sub [0, 1, 2] (lv' := [(0, (22, a0)), (1, (0, a1)), (2, (0, l2))]) rfl ?_
      obtain ⟨r9, hr9, rfl⟩ := mpp hr
      exact oX12_book_b194 (K := fun z9 => K (.inr (z9))) (fun r z => k0 r z) hr9 hk
    · have hr := ifp hr hc
      refine r_aload_n dX12_book_150 rfl 0 rfl (nl rfl) ?_
      refine r_get 12 53 (o := a0) (w := (50, h a0 53)) (T := TX12) (ref := "FollowingRefsModel") rfl (by decide) rfl (by decide) inlX12 (wsl_8 _ (List.mem_of_getElem? (i := 8) rfl)) rfl dX12_book_151 rfl ?_
      refine r_iconst dX12_book_154 (by decide) ?_
      refine r_aload_n dX12_book_155 rfl 0 rfl (nl rfl) ?_
      refine r_bipush dX12_book_156 (by decide) (by decide) ?_
      refine r_iload_n dX12_book_158 rfl 3 rfl (Or.inl rfl) ?_
      refine r_imul dX12_book_159 ?_
      obtain ⟨q160, hg160, hr⟩ := bnd hr
      refine k_V (ci := 12) (o := a0) (T := TX12) (as := [(0, w32 (20 * l3))]) (rest := [(0, 0), (50, h a0 53)]) (X := (some (0, q160.1), q160.2)) (oX12_does hg160) gX12_does rfl (by decide) rfl (wsl_65 _ (List.mem_of_getElem? (i := 23) rfl)) rfl dX12_book_160 rfl ?_
      obtain ⟨h163, hg163, hr⟩ := bnd hr
      refine r_iast dX12_book_163 hg163 ?_
      refine r_aload_n dX12_book_164 rfl 0 rfl (nl rfl) ?_
      refine r_get 12 53 (o := a0) (w := (50, h163 a0 53)) (T := TX12) (ref := "FollowingRefsModel") rfl (by decide) rfl (by decide) inlX12 (wsl_8 _ (List.mem_of_getElem? (i := 8) rfl)) rfl dX12_book_165 rfl ?_
      refine r_iconst dX12_book_168 (by decide) ?_
      obtain ⟨v169, hg169, hr⟩ := bnd hr
      refine r_iald dX12_book_169 hg169 ?_
      refine r_if_le dX12_book_170 (tgt := 178) (by decide) (fun hc => ?_) (fun hc => ?_)
      · have hr := ifn hr hc
        refine r_aload_n dX12_book_178 rfl 0 rfl (nl rfl) ?_
        refine r_get 12 53 (o := a0) (w := (50, h163 a0 53)) (T := TX12) (ref := "FollowingRefsModel") rfl (by decide) rfl (by decide) inlX12 (wsl_8 _ (List.mem_of_getElem? (i := 8) rfl)) rfl dX12_book_179 rfl ?_
        refine r_iconst dX12_book_182 (by decide) ?_
        refine r_dup2 dX12_book_183 (Nat.ne_of_beq_eq_false rfl) (Nat.ne_of_beq_eq_false rfl) ?_
        obtain ⟨v184, hg184, hr⟩ := bnd hr
        refine r_iald dX12_book_184 hg184 ?_
        refine r_iconst dX12_book_185 (by decide) ?_
        refine r_iadd dX12_book_186 ?_
        obtain ⟨h187, hg187, hr⟩ := bnd hr
        refine r_iast dX12_book_187 hg187 ?_
        refine r_iinc (k := 3) (v := l3) dX12_book_188 rfl (by decide) (lv' := [(3, (0, w32 (l3 + 1))), (0, (22, a0)), (1, (0, a1)), (2, (0, l2))]) rfl ?_
        refine r_goto dX12_book_191 (tgt := 138) (by decide) ?_
        refine r_sub [1, 2, 3, 0] (lv' := [(0, (22, a0)), (1, (0, a1)), (2, (0, l2)), (3, (0, w32 (l3 + 1)))]) rfl ?_
        obtain rfl := Option.some.inj hr
        exact k1 _ _ _ hk
      · have hr := ifp hr hc
        refine r_iload_n dX12_book_173 rfl 3 rfl (Or.inl rfl) ?_
        refine r_istore_n dX12_book_174 rfl (Or.inl rfl) (by decide) (lv' := [(2, (0, l3)), (0, (22, a0)), (1, (0, a1)), (3, (0, l3))]) rfl ?_
        refine r_goto dX12_book_175 (tgt := 188) (by decide) ?_
        refine r_iinc (k := 3) (v := l3) dX12_book_188 rfl (by decide) (lv' := [(3, (0, w32 (l3 + 1))), (2, (0, l3)), (0, (22, a0)), (1, (0, a1))]) rfl ?_
        refine r_goto dX12_book_191 (tgt := 138) (by decide) ?_
        refine r_sub [2, 3, 1, 0] (lv' := [(0, (22, a0)), (1, (0, a1)), (2, (0, l3)), (3, (0, w32 (l3 + 1)))]) rfl ?_
        obtain rfl := Option.some.inj hr
        exact k1 _ _ _ hk
set_option maxRecDepth 100000 in
set_option maxHeartbeats 4000000 in
theorem oX12_book_s116 {h0 : hH} {a0 a1 l2 : Int} {K : (hH × Int) ⊕ (Int × hH) → Prop} (k0 : ∀ r, K (.inr (r)) → x = (some (0, r.1), r.2)) (k1 : ∀ (h : hH) (l2 : Int), K (.inl (h, l2)) → Wq p l e R s m args below meth c D G A H0 true n0 M_X12_book x 0 0 116 [(0, (22, a0)), (1, (0, a1)), (2, (0, l2))] [] h) {r : (hH × Int) ⊕ (Int × hH)} (hr : fX12_book_s116 h0 a0 a1 (h, l2) = some r) (hk : K r) : Wq p l e R s m args below meth c D G A H0 true n0 M_X12_book x 0 0 116 [(0, (22, a0)), (1, (0, a1)), (2, (0, l2))] [] h := by
  unfold fX12_book_s116 at hr
  refine r_iload_n dX12_book_116 rfl 2 rfl (Or.inl rfl) ?_
  refine r_iconst dX12_book_117 (by decide) ?_
  refine r_icmp_ge dX12_book_118 (tgt := 134) (by decide) (fun hc => ?_) (fun hc => ?_)
  · have hr := ifn hr hc
    refine r_iconst dX12_book_134 (by decide) ?_
    refine r_istore_n dX12_book_135 rfl (Or.inl rfl) (by decide) (lv' := [(2, (0, -1)), (0, (22, a0)), (1, (0, a1))]) rfl ?_
    refine r_iconst dX12_book_136 (by decide) ?_
    refine r_istore_n dX12_book_137 rfl (Or.inl rfl) (by decide) (lv' := [(3, (0, 0)), (2, (0, -1)), (0, (22, a0)), (1, (0, a1))]) rfl ?_
    refine r_sub [2, 3, 1, 0] (lv' := [(0, (22, a0)), (1, (0, a1)), (2, (0, -1)), (3, (0, 0))]) rfl ?_
    obtain ⟨r9, hr9, rfl⟩ := mpp hr
    exact lp_ok (w := fun (q : hH × Int × Int) => Wq p l e R s m args below meth c D G A H0 true n0 M_X12_book x 0 0 138 [(0, (22, a0)), (1, (0, a1)), (2, (0, q.2.1)), (3, (0, q.2.2))] [] (q.1)) (K := fun z9 => K (.inr (z9))) (fun ⟨q0, q1, q2⟩ r h1 h2 => oX12_book_s138 (K := Sum.elim (fun (q : hH × Int × Int) => Wq p l e R s m args below meth c D G A H0 true n0 M_X12_book x 0 0 138 [(0, (22, a0)), (1, (0, a1)), (2, (0, q.2.1)), (3, (0, q.2.2))] [] (q.1)) (fun z9 => K (.inr (z9)))) (fun r z => k0 r z) (fun _ _ _ z => z) h1 h2) hr9 hk
  · have hr := ifp hr hc
    refine r_aload_n dX12_book_121 rfl 0 rfl (nl rfl) ?_
    refine r_get 12 53 (o := a0) (w := (50, h a0 53)) (T := TX12) (ref := "FollowingRefsModel") rfl (by decide) rfl (by decide) inlX12 (wsl_8 _ (List.mem_of_getElem? (i := 8) rfl)) rfl dX12_book_122 rfl ?_
    refine r_iload_n dX12_book_125 rfl 2 rfl (Or.inl rfl) ?_
    refine r_iconst dX12_book_126 (by decide) ?_
    obtain ⟨h127, hg127, hr⟩ := bnd hr
    refine r_iast dX12_book_127 hg127 ?_
    refine r_iinc (k := 2) (v := l2) dX12_book_128 rfl (by decide) (lv' := [(2, (0, w32 (l2 + 1))), (0, (22, a0)), (1, (0, a1))]) rfl ?_
    refine r_goto dX12_book_131 (tgt := 116) (by decide) ?_
    refine r_sub [1, 2, 0] (lv' := [(0, (22, a0)), (1, (0, a1)), (2, (0, w32 (l2 + 1)))]) rfl ?_
    obtain rfl := Option.some.inj hr
    exact k1 _ _ hk
set_option maxRecDepth 100000 in
set_option maxHeartbeats 4000000 in
theorem oX12_book_s85 {h0 : hH} {a0 a1 l2 : Int} {K : (hH × Int) ⊕ (Int × hH) → Prop} (k0 : ∀ r, K (.inr (r)) → x = (some (0, r.1), r.2)) (k1 : ∀ (h : hH) (l2 : Int), K (.inl (h, l2)) → Wq p l e R s m args below meth c D G A H0 true n0 M_X12_book x 0 0 85 [(0, (22, a0)), (1, (0, a1)), (2, (0, l2))] [] h) {r : (hH × Int) ⊕ (Int × hH)} (hr : fX12_book_s85 h0 a0 a1 (h, l2) = some r) (hk : K r) : Wq p l e R s m args below meth c D G A H0 true n0 M_X12_book x 0 0 85 [(0, (22, a0)), (1, (0, a1)), (2, (0, l2))] [] h := by
  unfold fX12_book_s85 at hr
  refine r_iload_n dX12_book_85 rfl 2 rfl (Or.inl rfl) ?_
  refine r_sipush dX12_book_86 (by decide) (by decide) ?_
  refine r_icmp_ge dX12_book_89 (tgt := 114) (by decide) (fun hc => ?_) (fun hc => ?_)
  · have hr := ifn hr hc
    refine r_iconst dX12_book_114 (by decide) ?_
    refine r_istore_n dX12_book_115 rfl (Or.inl rfl) (by decide) (lv' := [(2, (0, 0)), (0, (22, a0)), (1, (0, a1))]) rfl ?_
    refine r_sub [1, 2, 0] (lv' := [(0, (22, a0)), (1, (0, a1)), (2, (0, 0))]) rfl ?_
    obtain ⟨r9, hr9, rfl⟩ := mpp hr
    exact lp_ok (w := fun (q : hH × Int) => Wq p l e R s m args below meth c D G A H0 true n0 M_X12_book x 0 0 116 [(0, (22, a0)), (1, (0, a1)), (2, (0, q.2))] [] (q.1)) (K := fun z9 => K (.inr (z9))) (fun ⟨q0, q1⟩ r h1 h2 => oX12_book_s116 (K := Sum.elim (fun (q : hH × Int) => Wq p l e R s m args below meth c D G A H0 true n0 M_X12_book x 0 0 116 [(0, (22, a0)), (1, (0, a1)), (2, (0, q.2))] [] (q.1)) (fun z9 => K (.inr (z9)))) (fun r z => k0 r z) (fun _ _ z => z) h1 h2) hr9 hk
  · have hr := ifp hr hc
    refine r_aload_n dX12_book_92 rfl 0 rfl (nl rfl) ?_
    refine r_get 12 54 (o := a0) (w := (50, h a0 54)) (T := TX12) (ref := "FollowingRefsModel") rfl (by decide) rfl (by decide) inlX12 (wsl_8 _ (List.mem_of_getElem? (i := 9) rfl)) rfl dX12_book_93 rfl ?_
    refine r_iload_n dX12_book_96 rfl 2 rfl (Or.inl rfl) ?_
    refine r_aload_n dX12_book_97 rfl 0 rfl (nl rfl) ?_
    refine r_get 12 6 (o := a0) (w := (50, h a0 6)) (T := TX12) (ref := "FollowingRefsModel") rfl (by decide) rfl (by decide) inlX12 (wsl_7 _ (List.mem_of_getElem? (i := 8) rfl)) rfl dX12_book_98 rfl ?_
    refine r_sipush dX12_book_101 (by decide) (by decide) ?_
    refine r_iload_n dX12_book_104 rfl 2 rfl (Or.inl rfl) ?_
    refine r_iadd dX12_book_105 ?_
    obtain ⟨v106, hg106, hr⟩ := bnd hr
    refine r_iald dX12_book_106 hg106 ?_
    obtain ⟨h107, hg107, hr⟩ := bnd hr
    refine r_iast dX12_book_107 hg107 ?_
    refine r_iinc (k := 2) (v := l2) dX12_book_108 rfl (by decide) (lv' := [(2, (0, w32 (l2 + 1))), (0, (22, a0)), (1, (0, a1))]) rfl ?_
    refine r_goto dX12_book_111 (tgt := 85) (by decide) ?_
    refine r_sub [1, 2, 0] (lv' := [(0, (22, a0)), (1, (0, a1)), (2, (0, w32 (l2 + 1)))]) rfl ?_
    obtain rfl := Option.some.inj hr
    exact k1 _ _ hk
set_option maxRecDepth 100000 in
set_option maxHeartbeats 4000000 in
theorem oX12_book_s39 {h0 : hH} {a0 a1 : Int} {K : (hH) ⊕ (Int × hH) → Prop} (k0 : ∀ r, K (.inr (r)) → x = (some (0, r.1), r.2)) (k1 : ∀ (h : hH), K (.inl h) → Wq p l e R s m args below meth c D G A H0 true n0 M_X12_book x 0 0 39 [(0, (22, a0)), (1, (0, a1))] [] h) {r : (hH) ⊕ (Int × hH)} (hr : fX12_book_s39 h0 a0 a1 h = some r) (hk : K r) : Wq p l e R s m args below meth c D G A H0 true n0 M_X12_book x 0 0 39 [(0, (22, a0)), (1, (0, a1))] [] h := by
  unfold fX12_book_s39 at hr
  refine r_aload_n dX12_book_39 rfl 0 rfl (nl rfl) ?_
  refine r_get 12 12 (o := a0) (w := (0, h a0 12)) (T := TX12) (ref := "FollowingRefsModel") rfl (by decide) rfl (by decide) inlX12 (wsl_23 _ (List.mem_of_getElem? (i := 14) rfl)) rfl dX12_book_40 rfl ?_
  refine r_if_eq dX12_book_43 (tgt := 83) (by decide) (fun hc => ?_) (fun hc => ?_)
  · have hr := ifp hr hc
    refine r_iconst dX12_book_83 (by decide) ?_
    refine r_istore_n dX12_book_84 rfl (Or.inl rfl) (by decide) (lv' := [(2, (0, 0)), (0, (22, a0)), (1, (0, a1))]) rfl ?_
    refine r_sub [1, 2, 0] (lv' := [(0, (22, a0)), (1, (0, a1)), (2, (0, 0))]) rfl ?_
    obtain ⟨r9, hr9, rfl⟩ := mpp hr
    exact lp_ok (w := fun (q : hH × Int) => Wq p l e R s m args below meth c D G A H0 true n0 M_X12_book x 0 0 85 [(0, (22, a0)), (1, (0, a1)), (2, (0, q.2))] [] (q.1)) (K := fun z9 => K (.inr (z9))) (fun ⟨q0, q1⟩ r h1 h2 => oX12_book_s85 (K := Sum.elim (fun (q : hH × Int) => Wq p l e R s m args below meth c D G A H0 true n0 M_X12_book x 0 0 85 [(0, (22, a0)), (1, (0, a1)), (2, (0, q.2))] [] (q.1)) (fun z9 => K (.inr (z9)))) (fun r z => k0 r z) (fun _ _ z => z) h1 h2) hr9 hk
  · have hr := ifn hr hc
    refine r_aload_n dX12_book_46 rfl 0 rfl (nl rfl) ?_
    obtain ⟨q47, hg47, hr⟩ := bnd hr
    refine k_V (ci := 12) (o := a0) (T := TX12) (as := []) (rest := []) (X := (some (2, q47.1), q47.2)) (oX12_bookLine hg47) gX12_bookLine rfl (by decide) rfl (wsl_65 _ (List.mem_of_getElem? (i := 19) rfl)) rfl dX12_book_47 rfl ?_
    refine r_scast 0 (v := (2, q47.1)) (w := (0, q47.1)) rfl zc hTz (st' := [(0, q47.1)]) rfl ?_
    refine r_if_eq dX12_book_50 (tgt := 62) (by decide) (fun hc => ?_) (fun hc => ?_)
    · have hr := ifp hr hc
      refine r_sub [0] (lv' := [(0, (22, a0))]) rfl ?_
      obtain ⟨r9, hr9, rfl⟩ := mpp hr
      exact oX12_book_b62 (K := fun z9 => K (.inr (z9))) (fun r z => k0 r z) hr9 hk
    · have hr := ifn hr hc
      refine r_aload_n dX12_book_53 rfl 0 rfl (nl rfl) ?_
      refine r_bipush dX12_book_54 (by decide) (by decide) ?_
      obtain ⟨q56, hg56, hr⟩ := bnd hr
      refine k_V (ci := 12) (o := a0) (T := TX12) (as := [(0, 59)]) (rest := []) (X := (some (2, q56.1), q56.2)) (oX12_sign hg56) gX12_sign rfl (by decide) rfl (wsl_28 _ (List.mem_of_getElem? (i := 12) rfl)) rfl dX12_book_56 rfl ?_
      refine r_scast 0 (v := (2, q56.1)) (w := (0, q56.1)) rfl zc hTz (st' := [(0, q56.1)]) rfl ?_
      refine r_if_ne dX12_book_59 (tgt := 70) (by decide) (fun hc => ?_) (fun hc => ?_)
      · have hr := ifn hr hc
        refine r_aload_n dX12_book_70 rfl 0 rfl (nl rfl) ?_
        refine r_dup dX12_book_71 (Nat.ne_of_beq_eq_false rfl) ?_
        refine r_get 12 52 (o := a0) (w := (0, q56.2 a0 52)) (T := TX12) (ref := "FollowingRefsModel") rfl (by decide) rfl (by decide) inlX12 (wsl_65 _ (List.mem_of_getElem? (i := 17) rfl)) rfl dX12_book_72 rfl ?_
        refine r_iconst dX12_book_75 (by decide) ?_
        refine r_iadd dX12_book_76 ?_
        obtain ⟨h77, hg77, hr⟩ := bnd hr
        refine r_put' 12 52 (t := 0) (ref := "FollowingRefsModel") hg77 rfl tyX12 tyX12_ok nmX12 rfl (by decide) rfl (by decide) inlX12 (wsl_65 _ (List.mem_of_getElem? (i := 17) rfl)) rfl rfl (by decide +kernel) (by decide) rfl (Or.inl ⟨rfl, rfl⟩) dX12_book_77 ?_
        refine r_goto dX12_book_80 (tgt := 39) (by decide) ?_
        obtain rfl := Option.some.inj hr
        exact k1 _ hk
      · have hr := ifp hr hc
        refine r_sub [0] (lv' := [(0, (22, a0))]) rfl ?_
        obtain ⟨r9, hr9, rfl⟩ := mpp hr
        exact oX12_book_b62 (K := fun z9 => K (.inr (z9))) (fun r z => k0 r z) hr9 hk
set_option maxRecDepth 100000 in
set_option maxHeartbeats 4000000 in
theorem oX12_book_b0 {a0 a1 : Int} {K : Int × hH → Prop} (k0 : ∀ r, K (r) → x = (some (0, r.1), r.2)) {r : Int × hH} (hr : fX12_book h a0 a1 = some r) (hk : K r) : Wq p l e R s m args below meth c D G A H0 true n0 M_X12_book x 0 0 0 [(0, (22, a0)), (1, (0, a1))] [] h := by
  unfold fX12_book at hr
  refine r_aload_n dX12_book_0 rfl 0 rfl (nl rfl) ?_
  refine r_iconst dX12_book_1 (by decide) ?_
  obtain ⟨h2, hg2, hr⟩ := bnd hr
  refine r_put' 12 0 (t := 0) (ref := "FollowingRefsModel") hg2 rfl tyX12 tyX12_ok nmX12 rfl (by decide) rfl (by decide) inlX12 (wsl_10 _ (List.mem_of_getElem? (i := 11) rfl)) rfl rfl (by decide +kernel) (by decide) rfl (Or.inl ⟨rfl, rfl⟩) dX12_book_2 ?_
  refine r_iload_n dX12_book_5 rfl 1 rfl (Or.inl rfl) ?_
  refine r_iconst dX12_book_6 (by decide) ?_
  refine r_iconst dX12_book_7 (by decide) ?_
  obtain ⟨r8, hg8, hr⟩ := bnd hr
  refine k_S (as := [(0, a1), (0, 0), (0, 1)]) (rest := []) (X := (some (2, r8), h2)) (oX12_isIn hg8) gX12_isIn rfl (wsl_28 _ (List.mem_of_getElem? (i := 1) rfl)) rfl dX12_book_8 rfl ?_
  refine r_scast 0 (v := (2, r8)) (w := (0, r8)) rfl zc hTz (st' := [(0, r8)]) rfl ?_
  refine r_if_ne dX12_book_11 (tgt := 18) (by decide) (fun hc => ?_) (fun hc => ?_)
  · have hr := ifn hr hc
    refine r_aload_n dX12_book_18 rfl 0 rfl (nl rfl) ?_
    refine r_sipush dX12_book_19 (by decide) (by decide) ?_
    obtain ⟨h22, hg22, hr⟩ := bnd hr
    refine k_V (ci := 12) (o := a0) (T := TX12) (as := [(0, 400)]) (rest := []) (X := (none, h22)) (oX12_taken hg22) gX12_taken rfl (by decide) rfl (wsl_23 _ (List.mem_of_getElem? (i := 17) rfl)) rfl dX12_book_22 rfl ?_
    refine r_aload_n dX12_book_25 rfl 0 rfl (nl rfl) ?_
    refine r_iconst dX12_book_26 (by decide) ?_
    obtain ⟨h27, hg27, hr⟩ := bnd hr
    refine r_put' 12 16 (t := 0) (ref := "FollowingRefsModel") hg27 rfl tyX12 tyX12_ok nmX12 rfl (by decide) rfl (by decide) inlX12 (wsl_23 _ (List.mem_of_getElem? (i := 12) rfl)) rfl rfl (by decide +kernel) (by decide) rfl (Or.inl ⟨rfl, rfl⟩) dX12_book_27 ?_
    refine r_aload_n dX12_book_30 rfl 0 rfl (nl rfl) ?_
    refine r_iconst dX12_book_31 (by decide) ?_
    obtain ⟨h32, hg32, hr⟩ := bnd hr
    refine r_put' 12 52 (t := 0) (ref := "FollowingRefsModel") hg32 rfl tyX12 tyX12_ok nmX12 rfl (by decide) rfl (by decide) inlX12 (wsl_65 _ (List.mem_of_getElem? (i := 17) rfl)) rfl rfl (by decide +kernel) (by decide) rfl (Or.inl ⟨rfl, rfl⟩) dX12_book_32 ?_
    refine r_aload_n dX12_book_35 rfl 0 rfl (nl rfl) ?_
    obtain ⟨h36, hg36, hr⟩ := bnd hr
    refine k_V (ci := 12) (o := a0) (T := TX12) (as := []) (rest := []) (X := (none, h36)) (oX12_next hg36) gX12_next rfl (by decide) rfl (wsl_24 _ (List.mem_of_getElem? (i := 0) rfl)) rfl dX12_book_36 rfl ?_
    exact lp_ok (w := fun (q : hH) => Wq p l e R s m args below meth c D G A H0 true n0 M_X12_book x 0 0 39 [(0, (22, a0)), (1, (0, a1))] [] (q)) (K := K) (fun q r h1 h2 => oX12_book_s39 (K := Sum.elim (fun (q : hH) => Wq p l e R s m args below meth c D G A H0 true n0 M_X12_book x 0 0 39 [(0, (22, a0)), (1, (0, a1))] [] (q)) (K)) (fun r z => k0 r z) (fun _ z => z) h1 h2) hr hk
  · have hr := ifp hr hc
    refine r_sipush dX12_book_14 (by decide) (by decide) ?_
    obtain rfl := Option.some.inj hr
    exact r_ret dX12_book_17 rfl (Or.inl ⟨rfl, rfl⟩) (k0 _ hk) ⟨rfl, rfl⟩
end M_X12_book
theorem oX12_book {l : Launch} {D : va_G} {G : gG} {h : hH} {a0 a1 : Int} {r : Int × hH} (hr : fX12_book h a0 a1 = some r) : Ctr l D G true yX12_book M_X12_book [(22, a0), (0, a1)] h (some (0, r.1), r.2) :=
  Ctr_of (by decide) rfl (fun z => by cases z) (nl rfl) (fun {p e R s m args below meth c A H0} => by
    exact oX12_book_b0 (K := fun z9 => z9 = r) (fun r9 z => by rw [z]) hr rfl)
/-! X12_told -/
theorem dX12_told_0 : decode cX12_told 0 = .ok (.aload_n 0, 1) := by decide +kernel
theorem dX12_told_1 : decode cX12_told 1 = .ok (.iconst 0, 1) := by decide +kernel
theorem dX12_told_2 : decode cX12_told 2 = .ok (.putfield 1, 3) := by decide +kernel
theorem dX12_told_5 : decode cX12_told 5 = .ok (.aload_n 0, 1) := by decide +kernel
theorem dX12_told_6 : decode cX12_told 6 = .ok (.getfield 549, 3) := by decide +kernel
theorem dX12_told_9 : decode cX12_told 9 = .ok (.ifCond .eq 21, 3) := by decide +kernel
theorem dX12_told_12 : decode cX12_told 12 = .ok (.iload_n 1, 1) := by decide +kernel
theorem dX12_told_13 : decode cX12_told 13 = .ok (.iconst 0, 1) := by decide +kernel
theorem dX12_told_14 : decode cX12_told 14 = .ok (.iconst 3, 1) := by decide +kernel
theorem dX12_told_15 : decode cX12_told 15 = .ok (.invokestatic 229, 3) := by decide +kernel
theorem dX12_told_18 : decode cX12_told 18 = .ok (.ifCond .eq 12, 3) := by decide +kernel
theorem dX12_told_21 : decode cX12_told 21 = .ok (.aload_n 0, 1) := by decide +kernel
theorem dX12_told_22 : decode cX12_told 22 = .ok (.getfield 107, 3) := by decide +kernel
theorem dX12_told_25 : decode cX12_told 25 = .ok (.iload_n 1, 1) := by decide +kernel
theorem dX12_told_26 : decode cX12_told 26 = .ok (.iaload, 1) := by decide +kernel
theorem dX12_told_27 : decode cX12_told 27 = .ok (.goto 4, 3) := by decide +kernel
theorem dX12_told_30 : decode cX12_told 30 = .ok (.iconst (-1), 1) := by decide +kernel
theorem dX12_told_31 : decode cX12_told 31 = .ok (.ireturn, 1) := by decide +kernel
abbrev M_X12_told : mM := (cX12_told, 2, RX12, some .int, false, 1, 22, 0, 0)
theorem gX12_told : cI yX12_told M_X12_told 1 := ⟨(wsl_66 _ (List.mem_of_getElem? (i := 8) rfl)), (wsl_66 _ (List.mem_of_getElem? (i := 9) rfl)), (wsl_1 _ (List.mem_of_getElem? (i := 5) rfl)), (wsl_66 _ (List.mem_of_getElem? (i := 10) rfl)), by decide +kernel⟩
noncomputable def fX12_told (h : hH) (a0 a1 : Int) : Option (Int × hH) :=
  (pput h a0 0 0).bind fun h2 =>
  if h2 a0 55 = 0 then
    some (-1, h2)
  else
    (fX12_isIn h2 a1 0 3).bind fun r15 =>
    if r15 = 0 then
      some (-1, h2)
    else
      (aget h2 (h2 a0 53) a1).bind fun v26 =>
      some (v26, h2)
section M_X12_told
variable {p : Program} {l : Launch} {e : Env} {R : Room} {s : State} {m : MethodId} {args : Array Value} {below : List Frame} {meth : Method} {c : Code} {D : va_G} {G : gG} {A : Nat → Prop} {H0 : Heap} {n0 : Int} {x : Option vV × hH} {h : hH}
set_option maxRecDepth 100000 in
set_option maxHeartbeats 4000000 in
theorem oX12_told_b0 {a0 a1 : Int} {K : Int × hH → Prop} (k0 : ∀ r, K (r) → x = (some (0, r.1), r.2)) {r : Int × hH} (hr : fX12_told h a0 a1 = some r) (hk : K r) : Wq p l e R s m args below meth c D G A H0 true n0 M_X12_told x 0 0 0 [(0, (22, a0)), (1, (0, a1))] [] h := by
  unfold fX12_told at hr
  refine r_aload_n dX12_told_0 rfl 0 rfl (nl rfl) ?_
  refine r_iconst dX12_told_1 (by decide) ?_
  obtain ⟨h2, hg2, hr⟩ := bnd hr
  refine r_put' 12 0 (t := 0) (ref := "FollowingRefsModel") hg2 rfl tyX12 tyX12_ok nmX12 rfl (by decide) rfl (by decide) inlX12 (wsl_10 _ (List.mem_of_getElem? (i := 11) rfl)) rfl rfl (by decide +kernel) (by decide) rfl (Or.inl ⟨rfl, rfl⟩) dX12_told_2 ?_
  refine r_aload_n dX12_told_5 rfl 0 rfl (nl rfl) ?_
  refine r_get 12 55 (o := a0) (w := (2, h2 a0 55)) (T := TX12) (ref := "FollowingRefsModel") rfl (by decide) rfl (by decide) inlX12 (wsl_65 _ (List.mem_of_getElem? (i := 18) rfl)) rfl dX12_told_6 rfl ?_
  refine r_scast 0 (v := (2, h2 a0 55)) (w := (0, h2 a0 55)) rfl zc hTz (st' := [(0, h2 a0 55)]) rfl ?_
  refine r_if_eq dX12_told_9 (tgt := 30) (by decide) (fun hc => ?_) (fun hc => ?_)
  · have hr := ifp hr hc
    refine r_iconst dX12_told_30 (by decide) ?_
    obtain rfl := Option.some.inj hr
    exact r_ret dX12_told_31 rfl (Or.inl ⟨rfl, rfl⟩) (k0 _ hk) ⟨rfl, rfl⟩
  · have hr := ifn hr hc
    refine r_iload_n dX12_told_12 rfl 1 rfl (Or.inl rfl) ?_
    refine r_iconst dX12_told_13 (by decide) ?_
    refine r_iconst dX12_told_14 (by decide) ?_
    obtain ⟨r15, hg15, hr⟩ := bnd hr
    refine k_S (as := [(0, a1), (0, 0), (0, 3)]) (rest := []) (X := (some (2, r15), h2)) (oX12_isIn hg15) gX12_isIn rfl (wsl_28 _ (List.mem_of_getElem? (i := 1) rfl)) rfl dX12_told_15 rfl ?_
    refine r_scast 0 (v := (2, r15)) (w := (0, r15)) rfl zc hTz (st' := [(0, r15)]) rfl ?_
    refine r_if_eq dX12_told_18 (tgt := 30) (by decide) (fun hc => ?_) (fun hc => ?_)
    · have hr := ifp hr hc
      refine r_iconst dX12_told_30 (by decide) ?_
      obtain rfl := Option.some.inj hr
      exact r_ret dX12_told_31 rfl (Or.inl ⟨rfl, rfl⟩) (k0 _ hk) ⟨rfl, rfl⟩
    · have hr := ifn hr hc
      refine r_aload_n dX12_told_21 rfl 0 rfl (nl rfl) ?_
      refine r_get 12 53 (o := a0) (w := (50, h2 a0 53)) (T := TX12) (ref := "FollowingRefsModel") rfl (by decide) rfl (by decide) inlX12 (wsl_8 _ (List.mem_of_getElem? (i := 8) rfl)) rfl dX12_told_22 rfl ?_
      refine r_iload_n dX12_told_25 rfl 1 rfl (Or.inl rfl) ?_
      obtain ⟨v26, hg26, hr⟩ := bnd hr
      refine r_iald dX12_told_26 hg26 ?_
      refine r_goto dX12_told_27 (tgt := 31) (by decide) ?_
      obtain rfl := Option.some.inj hr
      exact r_ret dX12_told_31 rfl (Or.inl ⟨rfl, rfl⟩) (k0 _ hk) ⟨rfl, rfl⟩
end M_X12_told
theorem oX12_told {l : Launch} {D : va_G} {G : gG} {h : hH} {a0 a1 : Int} {r : Int × hH} (hr : fX12_told h a0 a1 = some r) : Ctr l D G true yX12_told M_X12_told [(22, a0), (0, a1)] h (some (0, r.1), r.2) :=
  Ctr_of (by decide) rfl (fun z => by cases z) (nl rfl) (fun {p e R s m args below meth c A H0} => by
    exact oX12_told_b0 (K := fun z9 => z9 = r) (fun r9 z => by rw [z]) hr rfl)
/-! X12_packOf -/
theorem dX12_packOf_0 : decode cX12_packOf 0 = .ok (.iconst 0, 1) := by decide +kernel
theorem dX12_packOf_1 : decode cX12_packOf 1 = .ok (.istore_n 1, 1) := by decide +kernel
theorem dX12_packOf_2 : decode cX12_packOf 2 = .ok (.iconst 0, 1) := by decide +kernel
theorem dX12_packOf_3 : decode cX12_packOf 3 = .ok (.istore_n 2, 1) := by decide +kernel
theorem dX12_packOf_4 : decode cX12_packOf 4 = .ok (.iload_n 2, 1) := by decide +kernel
theorem dX12_packOf_5 : decode cX12_packOf 5 = .ok (.aload_n 0, 1) := by decide +kernel
theorem dX12_packOf_6 : decode cX12_packOf 6 = .ok (.getfield 33, 3) := by decide +kernel
theorem dX12_packOf_9 : decode cX12_packOf 9 = .ok (.iconst 0, 1) := by decide +kernel
theorem dX12_packOf_10 : decode cX12_packOf 10 = .ok (.iaload, 1) := by decide +kernel
theorem dX12_packOf_11 : decode cX12_packOf 11 = .ok (.if_icmp .ge 35, 3) := by decide +kernel
theorem dX12_packOf_14 : decode cX12_packOf 14 = .ok (.iload_n 1, 1) := by decide +kernel
theorem dX12_packOf_15 : decode cX12_packOf 15 = .ok (.aload_n 0, 1) := by decide +kernel
theorem dX12_packOf_16 : decode cX12_packOf 16 = .ok (.iconst 4, 1) := by decide +kernel
theorem dX12_packOf_17 : decode cX12_packOf 17 = .ok (.iconst 4, 1) := by decide +kernel
theorem dX12_packOf_18 : decode cX12_packOf 18 = .ok (.iload_n 2, 1) := by decide +kernel
theorem dX12_packOf_19 : decode cX12_packOf 19 = .ok (.imul, 1) := by decide +kernel
theorem dX12_packOf_20 : decode cX12_packOf 20 = .ok (.iadd, 1) := by decide +kernel
theorem dX12_packOf_21 : decode cX12_packOf 21 = .ok (.aload_n 0, 1) := by decide +kernel
theorem dX12_packOf_22 : decode cX12_packOf 22 = .ok (.getfield 33, 3) := by decide +kernel
theorem dX12_packOf_25 : decode cX12_packOf 25 = .ok (.iconst 4, 1) := by decide +kernel
theorem dX12_packOf_26 : decode cX12_packOf 26 = .ok (.iload_n 2, 1) := by decide +kernel
theorem dX12_packOf_27 : decode cX12_packOf 27 = .ok (.iadd, 1) := by decide +kernel
theorem dX12_packOf_28 : decode cX12_packOf 28 = .ok (.iaload, 1) := by decide +kernel
theorem dX12_packOf_29 : decode cX12_packOf 29 = .ok (.invokevirtual 240, 3) := by decide +kernel
theorem dX12_packOf_32 : decode cX12_packOf 32 = .ok (.iconst 1, 1) := by decide +kernel
theorem dX12_packOf_33 : decode cX12_packOf 33 = .ok (.iadd, 1) := by decide +kernel
theorem dX12_packOf_34 : decode cX12_packOf 34 = .ok (.iconst 3, 1) := by decide +kernel
theorem dX12_packOf_35 : decode cX12_packOf 35 = .ok (.iload_n 2, 1) := by decide +kernel
theorem dX12_packOf_36 : decode cX12_packOf 36 = .ok (.imul, 1) := by decide +kernel
theorem dX12_packOf_37 : decode cX12_packOf 37 = .ok (.ishl, 1) := by decide +kernel
theorem dX12_packOf_38 : decode cX12_packOf 38 = .ok (.ior, 1) := by decide +kernel
theorem dX12_packOf_39 : decode cX12_packOf 39 = .ok (.istore_n 1, 1) := by decide +kernel
theorem dX12_packOf_40 : decode cX12_packOf 40 = .ok (.iinc 2 1, 3) := by decide +kernel
theorem dX12_packOf_43 : decode cX12_packOf 43 = .ok (.goto (-39), 3) := by decide +kernel
theorem dX12_packOf_46 : decode cX12_packOf 46 = .ok (.iload_n 1, 1) := by decide +kernel
theorem dX12_packOf_47 : decode cX12_packOf 47 = .ok (.ireturn, 1) := by decide +kernel
abbrev M_X12_packOf : mM := (cX12_packOf, 3, RX12, some .int, false, 1, 23, 0, 0)
theorem gX12_packOf : cI yX12_packOf M_X12_packOf 0 := ⟨(wsl_70 _ (List.mem_of_getElem? (i := 4) rfl)), (wsl_70 _ (List.mem_of_getElem? (i := 5) rfl)), (wsl_1 _ (List.mem_of_getElem? (i := 5) rfl)), (wsl_70 _ (List.mem_of_getElem? (i := 6) rfl)), by decide +kernel⟩
noncomputable def fX12_packOf_s4 (h : hH) (a0 : Int) : Int × Int → Option ((Int × Int) ⊕ (Int)) := fun (l1, l2) =>
  (aget h (h a0 6) 0).bind fun v10 =>
  if l2 < v10 then
    (aget h (h a0 6) (w32 (4 + l2))).bind fun v28 =>
    (fX12_seek h a0 (w32 (4 + (w32 (4 * l2)))) v28).bind fun r29 =>
    some (.inl (iorD l1 (ishD (w32 (r29 + 1)) (w32 (3 * l2))), w32 (l2 + 1)))
  else
    some (.inr (l1))
noncomputable def fX12_packOf (h : hH) (a0 : Int) : Option (Int) :=
  lpO (fX12_packOf_s4 h a0) (0, 0)
section M_X12_packOf
variable {p : Program} {l : Launch} {e : Env} {R : Room} {s : State} {m : MethodId} {args : Array Value} {below : List Frame} {meth : Method} {c : Code} {D : va_G} {G : gG} {A : Nat → Prop} {H0 : Heap} {n0 : Int} {x : Option vV × hH} {h : hH}
set_option maxRecDepth 100000 in
set_option maxHeartbeats 4000000 in
theorem oX12_packOf_s4 {a0 l1 l2 : Int} {K : (Int × Int) ⊕ (Int) → Prop} (k0 : ∀ r, K (.inr (r)) → x = (some (0, r), h)) (k1 : ∀ (l1 : Int) (l2 : Int), K (.inl (l1, l2)) → Wq p l e R s m args below meth c D G A H0 true n0 M_X12_packOf x 0 0 4 [(0, (22, a0)), (1, (0, l1)), (2, (0, l2))] [] h) {r : (Int × Int) ⊕ (Int)} (hr : fX12_packOf_s4 h a0 (l1, l2) = some r) (hk : K r) : Wq p l e R s m args below meth c D G A H0 true n0 M_X12_packOf x 0 0 4 [(0, (22, a0)), (1, (0, l1)), (2, (0, l2))] [] h := by
  unfold fX12_packOf_s4 at hr
  refine r_iload_n dX12_packOf_4 rfl 2 rfl (Or.inl rfl) ?_
  refine r_aload_n dX12_packOf_5 rfl 0 rfl (nl rfl) ?_
  refine r_get 12 6 (o := a0) (w := (50, h a0 6)) (T := TX12) (ref := "FollowingRefsModel") rfl (by decide) rfl (by decide) inlX12 (wsl_7 _ (List.mem_of_getElem? (i := 8) rfl)) rfl dX12_packOf_6 rfl ?_
  refine r_iconst dX12_packOf_9 (by decide) ?_
  obtain ⟨v10, hg10, hr⟩ := bnd hr
  refine r_iald dX12_packOf_10 hg10 ?_
  refine r_icmp_ge dX12_packOf_11 (tgt := 46) (by decide) (fun hc => ?_) (fun hc => ?_)
  · have hr := ifn hr hc
    refine r_iload_n dX12_packOf_46 rfl 1 rfl (Or.inl rfl) ?_
    obtain rfl := Option.some.inj hr
    exact r_ret dX12_packOf_47 rfl (Or.inl ⟨rfl, rfl⟩) (k0 _ hk) ⟨rfl, rfl⟩
  · have hr := ifp hr hc
    refine r_iload_n dX12_packOf_14 rfl 1 rfl (Or.inl rfl) ?_
    refine r_aload_n dX12_packOf_15 rfl 0 rfl (nl rfl) ?_
    refine r_iconst dX12_packOf_16 (by decide) ?_
    refine r_iconst dX12_packOf_17 (by decide) ?_
    refine r_iload_n dX12_packOf_18 rfl 2 rfl (Or.inl rfl) ?_
    refine r_imul dX12_packOf_19 ?_
    refine r_iadd dX12_packOf_20 ?_
    refine r_aload_n dX12_packOf_21 rfl 0 rfl (nl rfl) ?_
    refine r_get 12 6 (o := a0) (w := (50, h a0 6)) (T := TX12) (ref := "FollowingRefsModel") rfl (by decide) rfl (by decide) inlX12 (wsl_7 _ (List.mem_of_getElem? (i := 8) rfl)) rfl dX12_packOf_22 rfl ?_
    refine r_iconst dX12_packOf_25 (by decide) ?_
    refine r_iload_n dX12_packOf_26 rfl 2 rfl (Or.inl rfl) ?_
    refine r_iadd dX12_packOf_27 ?_
    obtain ⟨v28, hg28, hr⟩ := bnd hr
    refine r_iald dX12_packOf_28 hg28 ?_
    obtain ⟨r29, hg29, hr⟩ := bnd hr
    refine k_V (ci := 12) (o := a0) (T := TX12) (as := [(0, w32 (4 + (w32 (4 * l2)))), (0, v28)]) (rest := [(0, l1)]) (X := (some (0, r29), h)) (oX12_seek hg29) gX12_seek rfl (by decide) rfl (wsl_25 _ (List.mem_of_getElem? (i := 14) rfl)) rfl dX12_packOf_29 rfl ?_
    refine r_iconst dX12_packOf_32 (by decide) ?_
    refine r_iadd dX12_packOf_33 ?_
    refine r_iconst dX12_packOf_34 (by decide) ?_
    refine r_iload_n dX12_packOf_35 rfl 2 rfl (Or.inl rfl) ?_
    refine r_imul dX12_packOf_36 ?_
    refine r_ishl dX12_packOf_37 ?_
    refine r_ior dX12_packOf_38 ?_
    refine r_istore_n dX12_packOf_39 rfl (Or.inl rfl) (by decide) (lv' := [(1, (0, iorD l1 (ishD (w32 (r29 + 1)) (w32 (3 * l2))))), (0, (22, a0)), (2, (0, l2))]) rfl ?_
    refine r_iinc (k := 2) (v := l2) dX12_packOf_40 rfl (by decide) (lv' := [(2, (0, w32 (l2 + 1))), (1, (0, iorD l1 (ishD (w32 (r29 + 1)) (w32 (3 * l2))))), (0, (22, a0))]) rfl ?_
    refine r_goto dX12_packOf_43 (tgt := 4) (by decide) ?_
    refine r_sub [2, 1, 0] (lv' := [(0, (22, a0)), (1, (0, iorD l1 (ishD (w32 (r29 + 1)) (w32 (3 * l2))))), (2, (0, w32 (l2 + 1)))]) rfl ?_
    obtain rfl := Option.some.inj hr
    exact k1 _ _ hk
set_option maxRecDepth 100000 in
set_option maxHeartbeats 4000000 in
theorem oX12_packOf_b0 {a0 : Int} {K : Int → Prop} (k0 : ∀ r, K (r) → x = (some (0, r), h)) {r : Int} (hr : fX12_packOf h a0 = some r) (hk : K r) : Wq p l e R s m args below meth c D G A H0 true n0 M_X12_packOf x 0 0 0 [(0, (22, a0))] [] h := by
  unfold fX12_packOf at hr
  refine r_iconst dX12_packOf_0 (by decide) ?_
  refine r_istore_n dX12_packOf_1 rfl (Or.inl rfl) (by decide) (lv' := [(1, (0, 0)), (0, (22, a0))]) rfl ?_
  refine r_iconst dX12_packOf_2 (by decide) ?_
  refine r_istore_n dX12_packOf_3 rfl (Or.inl rfl) (by decide) (lv' := [(2, (0, 0)), (1, (0, 0)), (0, (22, a0))]) rfl ?_
  refine r_sub [2, 1, 0] (lv' := [(0, (22, a0)), (1, (0, 0)), (2, (0, 0))]) rfl ?_
  exact lp_ok (w := fun (q : Int × Int) => Wq p l e R s m args below meth c D G A H0 true n0 M_X12_packOf x 0 0 4 [(0, (22, a0)), (1, (0, q.1)), (2, (0, q.2))] [] (h)) (K := K) (fun ⟨q0, q1⟩ r h1 h2 => oX12_packOf_s4 (K := Sum.elim (fun (q : Int × Int) => Wq p l e R s m args below meth c D G A H0 true n0 M_X12_packOf x 0 0 4 [(0, (22, a0)), (1, (0, q.1)), (2, (0, q.2))] [] (h)) (K)) (fun r z => k0 r z) (fun _ _ z => z) h1 h2) hr hk
end M_X12_packOf
theorem oX12_packOf {l : Launch} {D : va_G} {G : gG} {h : hH} {a0 : Int} {r : Int} (hr : fX12_packOf h a0 = some r) : Ctr l D G true yX12_packOf M_X12_packOf [(22, a0)] h (some (0, r), h) :=
  Ctr_of (by decide) rfl (fun z => by cases z) (nl rfl) (fun {p e R s m args below meth c A H0} => by
    exact oX12_packOf_b0 (K := fun z9 => z9 = r) (fun r9 z => by rw [z]) hr rfl)
/-! X12_code -/
theorem dX12_code_0 : decode cX12_code 0 = .ok (.aload_n 0, 1) := by decide +kernel
theorem dX12_code_1 : decode cX12_code 1 = .ok (.getfield 40, 3) := by decide +kernel
theorem dX12_code_4 : decode cX12_code 4 = .ok (.iconst 3, 1) := by decide +kernel
theorem dX12_code_5 : decode cX12_code 5 = .ok (.aload_n 0, 1) := by decide +kernel
theorem dX12_code_6 : decode cX12_code 6 = .ok (.getfield 552, 3) := by decide +kernel
theorem dX12_code_9 : decode cX12_code 9 = .ok (.imul, 1) := by decide +kernel
theorem dX12_code_10 : decode cX12_code 10 = .ok (.iload_n 1, 1) := by decide +kernel
theorem dX12_code_11 : decode cX12_code 11 = .ok (.iastore, 1) := by decide +kernel
theorem dX12_code_12 : decode cX12_code 12 = .ok (.aload_n 0, 1) := by decide +kernel
theorem dX12_code_13 : decode cX12_code 13 = .ok (.getfield 40, 3) := by decide +kernel
theorem dX12_code_16 : decode cX12_code 16 = .ok (.iconst 3, 1) := by decide +kernel
theorem dX12_code_17 : decode cX12_code 17 = .ok (.aload_n 0, 1) := by decide +kernel
theorem dX12_code_18 : decode cX12_code 18 = .ok (.getfield 552, 3) := by decide +kernel
theorem dX12_code_21 : decode cX12_code 21 = .ok (.imul, 1) := by decide +kernel
theorem dX12_code_22 : decode cX12_code 22 = .ok (.iconst 1, 1) := by decide +kernel
theorem dX12_code_23 : decode cX12_code 23 = .ok (.iadd, 1) := by decide +kernel
theorem dX12_code_24 : decode cX12_code 24 = .ok (.iload_n 2, 1) := by decide +kernel
theorem dX12_code_25 : decode cX12_code 25 = .ok (.iastore, 1) := by decide +kernel
theorem dX12_code_26 : decode cX12_code 26 = .ok (.aload_n 0, 1) := by decide +kernel
theorem dX12_code_27 : decode cX12_code 27 = .ok (.getfield 40, 3) := by decide +kernel
theorem dX12_code_30 : decode cX12_code 30 = .ok (.iconst 3, 1) := by decide +kernel
theorem dX12_code_31 : decode cX12_code 31 = .ok (.aload_n 0, 1) := by decide +kernel
theorem dX12_code_32 : decode cX12_code 32 = .ok (.getfield 552, 3) := by decide +kernel
theorem dX12_code_35 : decode cX12_code 35 = .ok (.imul, 1) := by decide +kernel
theorem dX12_code_36 : decode cX12_code 36 = .ok (.iconst 2, 1) := by decide +kernel
theorem dX12_code_37 : decode cX12_code 37 = .ok (.iadd, 1) := by decide +kernel
theorem dX12_code_38 : decode cX12_code 38 = .ok (.iload_n 3, 1) := by decide +kernel
theorem dX12_code_39 : decode cX12_code 39 = .ok (.iastore, 1) := by decide +kernel
theorem dX12_code_40 : decode cX12_code 40 = .ok (.aload_n 0, 1) := by decide +kernel
theorem dX12_code_41 : decode cX12_code 41 = .ok (.dup, 1) := by decide +kernel
theorem dX12_code_42 : decode cX12_code 42 = .ok (.getfield 552, 3) := by decide +kernel
theorem dX12_code_45 : decode cX12_code 45 = .ok (.iconst 1, 1) := by decide +kernel
theorem dX12_code_46 : decode cX12_code 46 = .ok (.iadd, 1) := by decide +kernel
theorem dX12_code_47 : decode cX12_code 47 = .ok (.putfield 552, 3) := by decide +kernel
theorem dX12_code_50 : decode cX12_code 50 = .ok (.return_, 1) := by decide +kernel
abbrev M_X12_code : mM := (cX12_code, 4, RX12, none, false, 0, 0, 0, 0)
theorem gX12_code : cI yX12_code M_X12_code 3 := ⟨(wsl_69 _ (List.mem_of_getElem? (i := 8) rfl)), (wsl_69 _ (List.mem_of_getElem? (i := 9) rfl)), (wsl_1 _ (List.mem_of_getElem? (i := 5) rfl)), (wsl_69 _ (List.mem_of_getElem? (i := 10) rfl)), by decide +kernel⟩
noncomputable def fX12_code (h : hH) (a0 a1 a2 a3 : Int) : Option (hH) :=
  (aput h (h a0 8) (w32 (3 * (h a0 57))) a1).bind fun h11 =>
  (aput h11 (h11 a0 8) (w32 ((w32 (3 * (h11 a0 57))) + 1)) a2).bind fun h25 =>
  (aput h25 (h25 a0 8) (w32 ((w32 (3 * (h25 a0 57))) + 2)) a3).bind fun h39 =>
  (pput h39 a0 57 (w32 ((h39 a0 57) + 1))).bind fun h47 =>
  some h47
section M_X12_code
variable {p : Program} {l : Launch} {e : Env} {R : Room} {s : State} {m : MethodId} {args : Array Value} {below : List Frame} {meth : Method} {c : Code} {D : va_G} {G : gG} {A : Nat → Prop} {H0 : Heap} {n0 : Int} {x : Option vV × hH} {h : hH}
set_option maxRecDepth 100000 in
set_option maxHeartbeats 4000000 in
theorem oX12_code_b0 {a0 a1 a2 a3 : Int} {K : hH → Prop} (k0 : ∀ r, K (r) → x = (none, r)) {r : hH} (hr : fX12_code h a0 a1 a2 a3 = some r) (hk : K r) : Wq p l e R s m args below meth c D G A H0 true n0 M_X12_code x 0 0 0 [(0, (22, a0)), (1, (0, a1)), (2, (0, a2)), (3, (0, a3))] [] h := by
  unfold fX12_code at hr
  refine r_aload_n dX12_code_0 rfl 0 rfl (nl rfl) ?_
  refine r_get 12 8 (o := a0) (w := (50, h a0 8)) (T := TX12) (ref := "FollowingRefsModel") rfl (by decide) rfl (by decide) inlX12 (wsl_7 _ (List.mem_of_getElem? (i := 10) rfl)) rfl dX12_code_1 rfl ?_
  refine r_iconst dX12_code_4 (by decide) ?_
  refine r_aload_n dX12_code_5 rfl 0 rfl (nl rfl) ?_
  refine r_get 12 57 (o := a0) (w := (0, h a0 57)) (T := TX12) (ref := "FollowingRefsModel") rfl (by decide) rfl (by decide) inlX12 (wsl_68 _ (List.mem_of_getElem? (i := 22) rfl)) rfl dX12_code_6 rfl ?_
  refine r_imul dX12_code_9 ?_
  refine r_iload_n dX12_code_10 rfl 1 rfl (Or.inl rfl) ?_
  obtain ⟨h11, hg11, hr⟩ := bnd hr
  refine r_iast dX12_code_11 hg11 ?_
  refine r_aload_n dX12_code_12 rfl 0 rfl (nl rfl) ?_
  refine r_get 12 8 (o := a0) (w := (50, h11 a0 8)) (T := TX12) (ref := "FollowingRefsModel") rfl (by decide) rfl (by decide) inlX12 (wsl_7 _ (List.mem_of_getElem? (i := 10) rfl)) rfl dX12_code_13 rfl ?_
  refine r_iconst dX12_code_16 (by decide) ?_
  refine r_aload_n dX12_code_17 rfl 0 rfl (nl rfl) ?_
  refine r_get 12 57 (o := a0) (w := (0, h11 a0 57)) (T := TX12) (ref := "FollowingRefsModel") rfl (by decide) rfl (by decide) inlX12 (wsl_68 _ (List.mem_of_getElem? (i := 22) rfl)) rfl dX12_code_18 rfl ?_
  refine r_imul dX12_code_21 ?_
  refine r_iconst dX12_code_22 (by decide) ?_
  refine r_iadd dX12_code_23 ?_
  refine r_iload_n dX12_code_24 rfl 2 rfl (Or.inl rfl) ?_
  obtain ⟨h25, hg25, hr⟩ := bnd hr
  refine r_iast dX12_code_25 hg25 ?_
  refine r_aload_n dX12_code_26 rfl 0 rfl (nl rfl) ?_
  refine r_get 12 8 (o := a0) (w := (50, h25 a0 8)) (T := TX12) (ref := "FollowingRefsModel") rfl (by decide) rfl (by decide) inlX12 (wsl_7 _ (List.mem_of_getElem? (i := 10) rfl)) rfl dX12_code_27 rfl ?_
  refine r_iconst dX12_code_30 (by decide) ?_
  refine r_aload_n dX12_code_31 rfl 0 rfl (nl rfl) ?_
  refine r_get 12 57 (o := a0) (w := (0, h25 a0 57)) (T := TX12) (ref := "FollowingRefsModel") rfl (by decide) rfl (by decide) inlX12 (wsl_68 _ (List.mem_of_getElem? (i := 22) rfl)) rfl dX12_code_32 rfl ?_
  refine r_imul dX12_code_35 ?_
  refine r_iconst dX12_code_36 (by decide) ?_
  refine r_iadd dX12_code_37 ?_
  refine r_iload_n dX12_code_38 rfl 3 rfl (Or.inl rfl) ?_
  obtain ⟨h39, hg39, hr⟩ := bnd hr
  refine r_iast dX12_code_39 hg39 ?_
  refine r_aload_n dX12_code_40 rfl 0 rfl (nl rfl) ?_
  refine r_dup dX12_code_41 (Nat.ne_of_beq_eq_false rfl) ?_
  refine r_get 12 57 (o := a0) (w := (0, h39 a0 57)) (T := TX12) (ref := "FollowingRefsModel") rfl (by decide) rfl (by decide) inlX12 (wsl_68 _ (List.mem_of_getElem? (i := 22) rfl)) rfl dX12_code_42 rfl ?_
  refine r_iconst dX12_code_45 (by decide) ?_
  refine r_iadd dX12_code_46 ?_
  obtain ⟨h47, hg47, hr⟩ := bnd hr
  refine r_put' 12 57 (t := 0) (ref := "FollowingRefsModel") hg47 rfl tyX12 tyX12_ok nmX12 rfl (by decide) rfl (by decide) inlX12 (wsl_68 _ (List.mem_of_getElem? (i := 22) rfl)) rfl rfl (by decide +kernel) (by decide) rfl (Or.inl ⟨rfl, rfl⟩) dX12_code_47 ?_
  obtain rfl := Option.some.inj hr
  exact r_vret dX12_code_50 rfl (k0 _ hk) ⟨rfl, rfl⟩
end M_X12_code
theorem oX12_code {l : Launch} {D : va_G} {G : gG} {h : hH} {a0 a1 a2 a3 : Int} {r : hH} (hr : fX12_code h a0 a1 a2 a3 = some r) : Ctr l D G true yX12_code M_X12_code [(22, a0), (0, a1), (0, a2), (0, a3)] h (none, r) :=
  Ctr_of (by decide) rfl (fun z => by cases z) (nl rfl) (fun {p e R s m args below meth c A H0} => by
    exact oX12_code_b0 (K := fun z9 => z9 = r) (fun r9 z => by rw [z]) hr rfl)
/-! X12_joins -/
theorem dX12_joins_0 : decode cX12_joins 0 = .ok (.aload_n 0, 1) := by decide +kernel
theorem dX12_joins_1 : decode cX12_joins 1 = .ok (.getfield 555, 3) := by decide +kernel
theorem dX12_joins_4 : decode cX12_joins 4 = .ok (.ifCond .le 69, 3) := by decide +kernel
theorem dX12_joins_7 : decode cX12_joins 7 = .ok (.aload_n 0, 1) := by decide +kernel
theorem dX12_joins_8 : decode cX12_joins 8 = .ok (.getfield 113, 3) := by decide +kernel
theorem dX12_joins_11 : decode cX12_joins 11 = .ok (.aload_n 0, 1) := by decide +kernel
theorem dX12_joins_12 : decode cX12_joins 12 = .ok (.getfield 555, 3) := by decide +kernel
theorem dX12_joins_15 : decode cX12_joins 15 = .ok (.iconst 1, 1) := by decide +kernel
theorem dX12_joins_16 : decode cX12_joins 16 = .ok (.isub, 1) := by decide +kernel
theorem dX12_joins_17 : decode cX12_joins 17 = .ok (.iaload, 1) := by decide +kernel
theorem dX12_joins_18 : decode cX12_joins 18 = .ok (.bipush 21, 2) := by decide +kernel
theorem dX12_joins_20 : decode cX12_joins 20 = .ok (.if_icmp .eq 25, 3) := by decide +kernel
theorem dX12_joins_23 : decode cX12_joins 23 = .ok (.aload_n 0, 1) := by decide +kernel
theorem dX12_joins_24 : decode cX12_joins 24 = .ok (.getfield 113, 3) := by decide +kernel
theorem dX12_joins_27 : decode cX12_joins 27 = .ok (.aload_n 0, 1) := by decide +kernel
theorem dX12_joins_28 : decode cX12_joins 28 = .ok (.getfield 555, 3) := by decide +kernel
theorem dX12_joins_31 : decode cX12_joins 31 = .ok (.iconst 1, 1) := by decide +kernel
theorem dX12_joins_32 : decode cX12_joins 32 = .ok (.isub, 1) := by decide +kernel
theorem dX12_joins_33 : decode cX12_joins 33 = .ok (.iaload, 1) := by decide +kernel
theorem dX12_joins_34 : decode cX12_joins 34 = .ok (.bipush 22, 2) := by decide +kernel
theorem dX12_joins_36 : decode cX12_joins 36 = .ok (.if_icmp .ne 37, 3) := by decide +kernel
theorem dX12_joins_39 : decode cX12_joins 39 = .ok (.iload_n 1, 1) := by decide +kernel
theorem dX12_joins_40 : decode cX12_joins 40 = .ok (.bipush 22, 2) := by decide +kernel
theorem dX12_joins_42 : decode cX12_joins 42 = .ok (.if_icmp .ne 31, 3) := by decide +kernel
theorem dX12_joins_45 : decode cX12_joins 45 = .ok (.aload_n 0, 1) := by decide +kernel
theorem dX12_joins_46 : decode cX12_joins 46 = .ok (.dup, 1) := by decide +kernel
theorem dX12_joins_47 : decode cX12_joins 47 = .ok (.getfield 555, 3) := by decide +kernel
theorem dX12_joins_50 : decode cX12_joins 50 = .ok (.iconst 1, 1) := by decide +kernel
theorem dX12_joins_51 : decode cX12_joins 51 = .ok (.isub, 1) := by decide +kernel
theorem dX12_joins_52 : decode cX12_joins 52 = .ok (.putfield 555, 3) := by decide +kernel
theorem dX12_joins_55 : decode cX12_joins 55 = .ok (.aload_n 0, 1) := by decide +kernel
theorem dX12_joins_56 : decode cX12_joins 56 = .ok (.aload_n 0, 1) := by decide +kernel
theorem dX12_joins_57 : decode cX12_joins 57 = .ok (.getfield 113, 3) := by decide +kernel
theorem dX12_joins_60 : decode cX12_joins 60 = .ok (.aload_n 0, 1) := by decide +kernel
theorem dX12_joins_61 : decode cX12_joins 61 = .ok (.getfield 555, 3) := by decide +kernel
theorem dX12_joins_64 : decode cX12_joins 64 = .ok (.iaload, 1) := by decide +kernel
theorem dX12_joins_65 : decode cX12_joins 65 = .ok (.iconst 0, 1) := by decide +kernel
theorem dX12_joins_66 : decode cX12_joins 66 = .ok (.iconst 0, 1) := by decide +kernel
theorem dX12_joins_67 : decode cX12_joins 67 = .ok (.invokevirtual 558, 3) := by decide +kernel
theorem dX12_joins_70 : decode cX12_joins 70 = .ok (.goto (-70), 3) := by decide +kernel
theorem dX12_joins_73 : decode cX12_joins 73 = .ok (.return_, 1) := by decide +kernel
abbrev M_X12_joins : mM := (cX12_joins, 2, RX12, none, false, 1, 23, 0, 0)
theorem gX12_joins : cI yX12_joins M_X12_joins 1 := ⟨(wsl_69 _ (List.mem_of_getElem? (i := 12) rfl)), (wsl_69 _ (List.mem_of_getElem? (i := 13) rfl)), (wsl_1 _ (List.mem_of_getElem? (i := 5) rfl)), (wsl_69 _ (List.mem_of_getElem? (i := 14) rfl)), by decide +kernel⟩
noncomputable def fX12_joins_b45 (h : hH) (a0 a1 : Int) : Option ((hH) ⊕ (hH)) :=
  (pput h a0 59 (w32 ((h a0 59) - 1))).bind fun h52 =>
  (aget h52 (h52 a0 56) (h52 a0 59)).bind fun v64 =>
  (fX12_code h52 a0 v64 0 0).bind fun h67 =>
  some (.inl h67)
noncomputable def fX12_joins_s0 (h0 : hH) (a0 a1 : Int) : hH → Option ((hH) ⊕ (hH)) := fun h =>
  if 0 < h a0 59 then
    (aget h (h a0 56) (w32 ((h a0 59) - 1))).bind fun v17 =>
    if v17 = 21 then
      fX12_joins_b45 h a0 a1
    else
      (aget h (h a0 56) (w32 ((h a0 59) - 1))).bind fun v33 =>
      if v33 = 22 then
        if a1 = 22 then
          fX12_joins_b45 h a0 a1
        else
          some (.inr (h))
      else
        some (.inr (h))
  else
    some (.inr (h))
noncomputable def fX12_joins (h : hH) (a0 a1 : Int) : Option (hH) :=
  lpO (fX12_joins_s0 h a0 a1) h
section M_X12_joins
variable {p : Program} {l : Launch} {e : Env} {R : Room} {s : State} {m : MethodId} {args : Array Value} {below : List Frame} {meth : Method} {c : Code} {D : va_G} {G : gG} {A : Nat → Prop} {H0 : Heap} {n0 : Int} {x : Option vV × hH} {h : hH}
set_option maxRecDepth 100000 in
set_option maxHeartbeats 4000000 in
theorem oX12_joins_b45 {a0 a1 : Int} {K : (hH) ⊕ (hH) → Prop} (k0 : ∀ r, K (.inr (r)) → x = (none, r)) (k1 : ∀ (h : hH), K (.inl h) → Wq p l e R s m args below meth c D G A H0 true n0 M_X12_joins x 0 0 0 [(0, (22, a0)), (1, (0, a1))] [] h) {r : (hH) ⊕ (hH)} (hr : fX12_joins_b45 h a0 a1 = some r) (hk : K r) : Wq p l e R s m args below meth c D G A H0 true n0 M_X12_joins x 0 0 45 [(0, (22, a0)), (1, (0, a1))] [] h := by
  unfold fX12_joins_b45 at hr
  refine r_aload_n dX12_joins_45 rfl 0 rfl (nl rfl) ?_
  refine r_dup dX12_joins_46 (Nat.ne_of_beq_eq_false rfl) ?_
  refine r_get 12 59 (o := a0) (w := (0, h a0 59)) (T := TX12) (ref := "FollowingRefsModel") rfl (by decide) rfl (by decide) inlX12 (wsl_69 _ (List.mem_of_getElem? (i := 0) rfl)) rfl dX12_joins_47 rfl ?_
  refine r_iconst dX12_joins_50 (by decide) ?_
  refine r_isub dX12_joins_51 ?_
  obtain ⟨h52, hg52, hr⟩ := bnd hr
  refine r_put' 12 59 (t := 0) (ref := "FollowingRefsModel") hg52 rfl tyX12 tyX12_ok nmX12 rfl (by decide) rfl (by decide) inlX12 (wsl_69 _ (List.mem_of_getElem? (i := 0) rfl)) rfl rfl (by decide +kernel) (by decide) rfl (Or.inl ⟨rfl, rfl⟩) dX12_joins_52 ?_
  refine r_aload_n dX12_joins_55 rfl 0 rfl (nl rfl) ?_
  refine r_aload_n dX12_joins_56 rfl 0 rfl (nl rfl) ?_
  refine r_get 12 56 (o := a0) (w := (50, h52 a0 56)) (T := TX12) (ref := "FollowingRefsModel") rfl (by decide) rfl (by decide) inlX12 (wsl_8 _ (List.mem_of_getElem? (i := 10) rfl)) rfl dX12_joins_57 rfl ?_
  refine r_aload_n dX12_joins_60 rfl 0 rfl (nl rfl) ?_
  refine r_get 12 59 (o := a0) (w := (0, h52 a0 59)) (T := TX12) (ref := "FollowingRefsModel") rfl (by decide) rfl (by decide) inlX12 (wsl_69 _ (List.mem_of_getElem? (i := 0) rfl)) rfl dX12_joins_61 rfl ?_
  obtain ⟨v64, hg64, hr⟩ := bnd hr
  refine r_iald dX12_joins_64 hg64 ?_
  refine r_iconst dX12_joins_65 (by decide) ?_
  refine r_iconst dX12_joins_66 (by decide) ?_
  obtain ⟨h67, hg67, hr⟩ := bnd hr
  refine k_V (ci := 12) (o := a0) (T := TX12) (as := [(0, v64), (0, 0), (0, 0)]) (rest := []) (X := (none, h67)) (oX12_code hg67) gX12_code rfl (by decide) rfl (wsl_69 _ (List.mem_of_getElem? (i := 7) rfl)) rfl dX12_joins_67 rfl ?_
  refine r_goto dX12_joins_70 (tgt := 0) (by decide) ?_
  obtain rfl := Option.some.inj hr
  exact k1 _ hk
set_option maxRecDepth 100000 in
set_option maxHeartbeats 4000000 in
theorem oX12_joins_s0 {h0 : hH} {a0 a1 : Int} {K : (hH) ⊕ (hH) → Prop} (k0 : ∀ r, K (.inr (r)) → x = (none, r)) (k1 : ∀ (h : hH), K (.inl h) → Wq p l e R s m args below meth c D G A H0 true n0 M_X12_joins x 0 0 0 [(0, (22, a0)), (1, (0, a1))] [] h) {r : (hH) ⊕ (hH)} (hr : fX12_joins_s0 h0 a0 a1 h = some r) (hk : K r) : Wq p l e R s m args below meth c D G A H0 true n0 M_X12_joins x 0 0 0 [(0, (22, a0)), (1, (0, a1))] [] h := by
  unfold fX12_joins_s0 at hr
  refine r_aload_n dX12_joins_0 rfl 0 rfl (nl rfl) ?_
  refine r_get 12 59 (o := a0) (w := (0, h a0 59)) (T := TX12) (ref := "FollowingRefsModel") rfl (by decide) rfl (by decide) inlX12 (wsl_69 _ (List.mem_of_getElem? (i := 0) rfl)) rfl dX12_joins_1 rfl ?_
  refine r_if_le dX12_joins_4 (tgt := 73) (by decide) (fun hc => ?_) (fun hc => ?_)
  · have hr := ifn hr hc
    obtain rfl := Option.some.inj hr
    exact r_vret dX12_joins_73 rfl (k0 _ hk) ⟨rfl, rfl⟩
  · have hr := ifp hr hc
    refine r_aload_n dX12_joins_7 rfl 0 rfl (nl rfl) ?_
    refine r_get 12 56 (o := a0) (w := (50, h a0 56)) (T := TX12) (ref := "FollowingRefsModel") rfl (by decide) rfl (by decide) inlX12 (wsl_8 _ (List.mem_of_getElem? (i := 10) rfl)) rfl dX12_joins_8 rfl ?_
    refine r_aload_n dX12_joins_11 rfl 0 rfl (nl rfl) ?_
    refine r_get 12 59 (o := a0) (w := (0, h a0 59)) (T := TX12) (ref := "FollowingRefsModel") rfl (by decide) rfl (by decide) inlX12 (wsl_69 _ (List.mem_of_getElem? (i := 0) rfl)) rfl dX12_joins_12 rfl ?_
    refine r_iconst dX12_joins_15 (by decide) ?_
    refine r_isub dX12_joins_16 ?_
    obtain ⟨v17, hg17, hr⟩ := bnd hr
    refine r_iald dX12_joins_17 hg17 ?_
    refine r_bipush dX12_joins_18 (by decide) (by decide) ?_
    refine r_icmp_eq dX12_joins_20 (tgt := 45) (by decide) (fun hc => ?_) (fun hc => ?_)
    · have hr := ifp hr hc
      exact oX12_joins_b45 (K := K) (fun r z => k0 r z) (fun _ z => k1 _ z) hr hk
    · have hr := ifn hr hc
      refine r_aload_n dX12_joins_23 rfl 0 rfl (nl rfl) ?_
      refine r_get 12 56 (o := a0) (w := (50, h a0 56)) (T := TX12) (ref := "FollowingRefsModel") rfl (by decide) rfl (by decide) inlX12 (wsl_8 _ (List.mem_of_getElem? (i := 10) rfl)) rfl dX12_joins_24 rfl ?_
      refine r_aload_n dX12_joins_27 rfl 0 rfl (nl rfl) ?_
      refine r_get 12 59 (o := a0) (w := (0, h a0 59)) (T := TX12) (ref := "FollowingRefsModel") rfl (by decide) rfl (by decide) inlX12 (wsl_69 _ (List.mem_of_getElem? (i := 0) rfl)) rfl dX12_joins_28 rfl ?_
      refine r_iconst dX12_joins_31 (by decide) ?_
      refine r_isub dX12_joins_32 ?_
      obtain ⟨v33, hg33, hr⟩ := bnd hr
      refine r_iald dX12_joins_33 hg33 ?_
      refine r_bipush dX12_joins_34 (by decide) (by decide) ?_
      refine r_icmp_ne dX12_joins_36 (tgt := 73) (by decide) (fun hc => ?_) (fun hc => ?_)
      · have hr := ifn hr hc
        obtain rfl := Option.some.inj hr
        exact r_vret dX12_joins_73 rfl (k0 _ hk) ⟨rfl, rfl⟩
      · have hr := ifp hr hc
        refine r_iload_n dX12_joins_39 rfl 1 rfl (Or.inl rfl) ?_
        refine r_bipush dX12_joins_40 (by decide) (by decide) ?_
        refine r_icmp_ne dX12_joins_42 (tgt := 73) (by decide) (fun hc => ?_) (fun hc => ?_)
        · have hr := ifn hr hc
          obtain rfl := Option.some.inj hr
          exact r_vret dX12_joins_73 rfl (k0 _ hk) ⟨rfl, rfl⟩
        · have hr := ifp hr hc
          exact oX12_joins_b45 (K := K) (fun r z => k0 r z) (fun _ z => k1 _ z) hr hk
set_option maxRecDepth 100000 in
set_option maxHeartbeats 4000000 in
theorem oX12_joins_b0 {a0 a1 : Int} {K : hH → Prop} (k0 : ∀ r, K (r) → x = (none, r)) {r : hH} (hr : fX12_joins h a0 a1 = some r) (hk : K r) : Wq p l e R s m args below meth c D G A H0 true n0 M_X12_joins x 0 0 0 [(0, (22, a0)), (1, (0, a1))] [] h := by
  unfold fX12_joins at hr
  exact lp_ok (w := fun (q : hH) => Wq p l e R s m args below meth c D G A H0 true n0 M_X12_joins x 0 0 0 [(0, (22, a0)), (1, (0, a1))] [] (q)) (K := K) (fun q r h1 h2 => oX12_joins_s0 (K := Sum.elim (fun (q : hH) => Wq p l e R s m args below meth c D G A H0 true n0 M_X12_joins x 0 0 0 [(0, (22, a0)), (1, (0, a1))] [] (q)) (K)) (fun r z => k0 r z) (fun _ z => z) h1 h2) hr hk
end M_X12_joins
theorem oX12_joins {l : Launch} {D : va_G} {G : gG} {h : hH} {a0 a1 : Int} {r : hH} (hr : fX12_joins h a0 a1 = some r) : Ctr l D G true yX12_joins M_X12_joins [(22, a0), (0, a1)] h (none, r) :=
  Ctr_of (by decide) rfl (fun z => by cases z) (nl rfl) (fun {p e R s m args below meth c A H0} => by
    exact oX12_joins_b0 (K := fun z9 => z9 = r) (fun r9 z => by rw [z]) hr rfl)
/-! X12_nots -/
theorem dX12_nots_0 : decode cX12_nots 0 = .ok (.aload_n 0, 1) := by decide +kernel
theorem dX12_nots_1 : decode cX12_nots 1 = .ok (.getfield 555, 3) := by decide +kernel
theorem dX12_nots_4 : decode cX12_nots 4 = .ok (.ifCond .le 50, 3) := by decide +kernel
theorem dX12_nots_7 : decode cX12_nots 7 = .ok (.aload_n 0, 1) := by decide +kernel
theorem dX12_nots_8 : decode cX12_nots 8 = .ok (.getfield 113, 3) := by decide +kernel
theorem dX12_nots_11 : decode cX12_nots 11 = .ok (.aload_n 0, 1) := by decide +kernel
theorem dX12_nots_12 : decode cX12_nots 12 = .ok (.getfield 555, 3) := by decide +kernel
theorem dX12_nots_15 : decode cX12_nots 15 = .ok (.iconst 1, 1) := by decide +kernel
theorem dX12_nots_16 : decode cX12_nots 16 = .ok (.isub, 1) := by decide +kernel
theorem dX12_nots_17 : decode cX12_nots 17 = .ok (.iaload, 1) := by decide +kernel
theorem dX12_nots_18 : decode cX12_nots 18 = .ok (.bipush 20, 2) := by decide +kernel
theorem dX12_nots_20 : decode cX12_nots 20 = .ok (.if_icmp .ne 34, 3) := by decide +kernel
theorem dX12_nots_23 : decode cX12_nots 23 = .ok (.aload_n 0, 1) := by decide +kernel
theorem dX12_nots_24 : decode cX12_nots 24 = .ok (.dup, 1) := by decide +kernel
theorem dX12_nots_25 : decode cX12_nots 25 = .ok (.getfield 555, 3) := by decide +kernel
theorem dX12_nots_28 : decode cX12_nots 28 = .ok (.iconst 1, 1) := by decide +kernel
theorem dX12_nots_29 : decode cX12_nots 29 = .ok (.isub, 1) := by decide +kernel
theorem dX12_nots_30 : decode cX12_nots 30 = .ok (.putfield 555, 3) := by decide +kernel
theorem dX12_nots_33 : decode cX12_nots 33 = .ok (.aload_n 0, 1) := by decide +kernel
theorem dX12_nots_34 : decode cX12_nots 34 = .ok (.dup, 1) := by decide +kernel
theorem dX12_nots_35 : decode cX12_nots 35 = .ok (.getfield 561, 3) := by decide +kernel
theorem dX12_nots_38 : decode cX12_nots 38 = .ok (.iconst 1, 1) := by decide +kernel
theorem dX12_nots_39 : decode cX12_nots 39 = .ok (.isub, 1) := by decide +kernel
theorem dX12_nots_40 : decode cX12_nots 40 = .ok (.putfield 561, 3) := by decide +kernel
theorem dX12_nots_43 : decode cX12_nots 43 = .ok (.aload_n 0, 1) := by decide +kernel
theorem dX12_nots_44 : decode cX12_nots 44 = .ok (.bipush 20, 2) := by decide +kernel
theorem dX12_nots_46 : decode cX12_nots 46 = .ok (.iconst 0, 1) := by decide +kernel
theorem dX12_nots_47 : decode cX12_nots 47 = .ok (.iconst 0, 1) := by decide +kernel
theorem dX12_nots_48 : decode cX12_nots 48 = .ok (.invokevirtual 558, 3) := by decide +kernel
theorem dX12_nots_51 : decode cX12_nots 51 = .ok (.goto (-51), 3) := by decide +kernel
theorem dX12_nots_54 : decode cX12_nots 54 = .ok (.return_, 1) := by decide +kernel
abbrev M_X12_nots : mM := (cX12_nots, 1, RX12, none, false, 1, 23, 0, 0)
theorem gX12_nots : cI yX12_nots M_X12_nots 0 := ⟨(wsl_69 _ (List.mem_of_getElem? (i := 4) rfl)), (wsl_69 _ (List.mem_of_getElem? (i := 5) rfl)), (wsl_1 _ (List.mem_of_getElem? (i := 5) rfl)), (wsl_69 _ (List.mem_of_getElem? (i := 6) rfl)), by decide +kernel⟩
noncomputable def fX12_nots_s0 (h0 : hH) (a0 : Int) : hH → Option ((hH) ⊕ (hH)) := fun h =>
  if 0 < h a0 59 then
    (aget h (h a0 56) (w32 ((h a0 59) - 1))).bind fun v17 =>
    if v17 = 20 then
      (pput h a0 59 (w32 ((h a0 59) - 1))).bind fun h30 =>
      (pput h30 a0 60 (w32 ((h30 a0 60) - 1))).bind fun h40 =>
      (fX12_code h40 a0 20 0 0).bind fun h48 =>
      some (.inl h48)
    else
      some (.inr (h))
  else
    some (.inr (h))
noncomputable def fX12_nots (h : hH) (a0 : Int) : Option (hH) :=
  lpO (fX12_nots_s0 h a0) h
section M_X12_nots
variable {p : Program} {l : Launch} {e : Env} {R : Room} {s : State} {m : MethodId} {args : Array Value} {below : List Frame} {meth : Method} {c : Code} {D : va_G} {G : gG} {A : Nat → Prop} {H0 : Heap} {n0 : Int} {x : Option vV × hH} {h : hH}
set_option maxRecDepth 100000 in
set_option maxHeartbeats 4000000 in
theorem oX12_nots_s0 {h0 : hH} {a0 : Int} {K : (hH) ⊕ (hH) → Prop} (k0 : ∀ r, K (.inr (r)) → x = (none, r)) (k1 : ∀ (h : hH), K (.inl h) → Wq p l e R s m args below meth c D G A H0 true n0 M_X12_nots x 0 0 0 [(0, (22, a0))] [] h) {r : (hH) ⊕ (hH)} (hr : fX12_nots_s0 h0 a0 h = some r) (hk : K r) : Wq p l e R s m args below meth c D G A H0 true n0 M_X12_nots x 0 0 0 [(0, (22, a0))] [] h := by
  unfold fX12_nots_s0 at hr
  refine r_aload_n dX12_nots_0 rfl 0 rfl (nl rfl) ?_
  refine r_get 12 59 (o := a0) (w := (0, h a0 59)) (T := TX12) (ref := "FollowingRefsModel") rfl (by decide) rfl (by decide) inlX12 (wsl_69 _ (List.mem_of_getElem? (i := 0) rfl)) rfl dX12_nots_1 rfl ?_
  refine r_if_le dX12_nots_4 (tgt := 54) (by decide) (fun hc => ?_) (fun hc => ?_)
  · have hr := ifn hr hc
    obtain rfl := Option.some.inj hr
    exact r_vret dX12_nots_54 rfl (k0 _ hk) ⟨rfl, rfl⟩
  · have hr := ifp hr hc
    refine r_aload_n dX12_nots_7 rfl 0 rfl (nl rfl) ?_
    refine r_get 12 56 (o := a0) (w := (50, h a0 56)) (T := TX12) (ref := "FollowingRefsModel") rfl (by decide) rfl (by decide) inlX12 (wsl_8 _ (List.mem_of_getElem? (i := 10) rfl)) rfl dX12_nots_8 rfl ?_
    refine r_aload_n dX12_nots_11 rfl 0 rfl (nl rfl) ?_
    refine r_get 12 59 (o := a0) (w := (0, h a0 59)) (T := TX12) (ref := "FollowingRefsModel") rfl (by decide) rfl (by decide) inlX12 (wsl_69 _ (List.mem_of_getElem? (i := 0) rfl)) rfl dX12_nots_12 rfl ?_
    refine r_iconst dX12_nots_15 (by decide) ?_
    refine r_isub dX12_nots_16 ?_
    obtain ⟨v17, hg17, hr⟩ := bnd hr
    refine r_iald dX12_nots_17 hg17 ?_
    refine r_bipush dX12_nots_18 (by decide) (by decide) ?_
    refine r_icmp_ne dX12_nots_20 (tgt := 54) (by decide) (fun hc => ?_) (fun hc => ?_)
    · have hr := ifn hr hc
      obtain rfl := Option.some.inj hr
      exact r_vret dX12_nots_54 rfl (k0 _ hk) ⟨rfl, rfl⟩
    · have hr := ifp hr hc
      refine r_aload_n dX12_nots_23 rfl 0 rfl (nl rfl) ?_
      refine r_dup dX12_nots_24 (Nat.ne_of_beq_eq_false rfl) ?_
      refine r_get 12 59 (o := a0) (w := (0, h a0 59)) (T := TX12) (ref := "FollowingRefsModel") rfl (by decide) rfl (by decide) inlX12 (wsl_69 _ (List.mem_of_getElem? (i := 0) rfl)) rfl dX12_nots_25 rfl ?_
      refine r_iconst dX12_nots_28 (by decide) ?_
      refine r_isub dX12_nots_29 ?_
      obtain ⟨h30, hg30, hr⟩ := bnd hr
      refine r_put' 12 59 (t := 0) (ref := "FollowingRefsModel") hg30 rfl tyX12 tyX12_ok nmX12 rfl (by decide) rfl (by decide) inlX12 (wsl_69 _ (List.mem_of_getElem? (i := 0) rfl)) rfl rfl (by decide +kernel) (by decide) rfl (Or.inl ⟨rfl, rfl⟩) dX12_nots_30 ?_
      refine r_aload_n dX12_nots_33 rfl 0 rfl (nl rfl) ?_
      refine r_dup dX12_nots_34 (Nat.ne_of_beq_eq_false rfl) ?_
      refine r_get 12 60 (o := a0) (w := (0, h30 a0 60)) (T := TX12) (ref := "FollowingRefsModel") rfl (by decide) rfl (by decide) inlX12 (wsl_69 _ (List.mem_of_getElem? (i := 1) rfl)) rfl dX12_nots_35 rfl ?_
      refine r_iconst dX12_nots_38 (by decide) ?_
      refine r_isub dX12_nots_39 ?_
      obtain ⟨h40, hg40, hr⟩ := bnd hr
      refine r_put' 12 60 (t := 0) (ref := "FollowingRefsModel") hg40 rfl tyX12 tyX12_ok nmX12 rfl (by decide) rfl (by decide) inlX12 (wsl_69 _ (List.mem_of_getElem? (i := 1) rfl)) rfl rfl (by decide +kernel) (by decide) rfl (Or.inl ⟨rfl, rfl⟩) dX12_nots_40 ?_
      refine r_aload_n dX12_nots_43 rfl 0 rfl (nl rfl) ?_
      refine r_bipush dX12_nots_44 (by decide) (by decide) ?_
      refine r_iconst dX12_nots_46 (by decide) ?_
      refine r_iconst dX12_nots_47 (by decide) ?_
      obtain ⟨h48, hg48, hr⟩ := bnd hr
      refine k_V (ci := 12) (o := a0) (T := TX12) (as := [(0, 20), (0, 0), (0, 0)]) (rest := []) (X := (none, h48)) (oX12_code hg48) gX12_code rfl (by decide) rfl (wsl_69 _ (List.mem_of_getElem? (i := 7) rfl)) rfl dX12_nots_48 rfl ?_
      refine r_goto dX12_nots_51 (tgt := 0) (by decide) ?_
      obtain rfl := Option.some.inj hr
      exact k1 _ hk
set_option maxRecDepth 100000 in
set_option maxHeartbeats 4000000 in
theorem oX12_nots_b0 {a0 : Int} {K : hH → Prop} (k0 : ∀ r, K (r) → x = (none, r)) {r : hH} (hr : fX12_nots h a0 = some r) (hk : K r) : Wq p l e R s m args below meth c D G A H0 true n0 M_X12_nots x 0 0 0 [(0, (22, a0))] [] h := by
  unfold fX12_nots at hr
  exact lp_ok (w := fun (q : hH) => Wq p l e R s m args below meth c D G A H0 true n0 M_X12_nots x 0 0 0 [(0, (22, a0))] [] (q)) (K := K) (fun q r h1 h2 => oX12_nots_s0 (K := Sum.elim (fun (q : hH) => Wq p l e R s m args below meth c D G A H0 true n0 M_X12_nots x 0 0 0 [(0, (22, a0))] [] (q)) (K)) (fun r z => k0 r z) (fun _ z => z) h1 h2) hr hk
end M_X12_nots
theorem oX12_nots {l : Launch} {D : va_G} {G : gG} {h : hH} {a0 : Int} {r : hH} (hr : fX12_nots h a0 = some r) : Ctr l D G true yX12_nots M_X12_nots [(22, a0)] h (none, r) :=
  Ctr_of (by decide) rfl (fun z => by cases z) (nl rfl) (fun {p e R s m args below meth c A H0} => by
    exact oX12_nots_b0 (K := fun z9 => z9 = r) (fun r9 z => by rw [z]) hr rfl)
/-! X12_leafOf -/
theorem dX12_leafOf_0 : decode cX12_leafOf 0 = .ok (.aload_n 0, 1) := by decide +kernel
theorem dX12_leafOf_1 : decode cX12_leafOf 1 = .ok (.ldc2_w 177, 3) := by decide +kernel
theorem dX12_leafOf_4 : decode cX12_leafOf 4 = .ok (.invokevirtual 248, 3) := by decide +kernel
theorem dX12_leafOf_7 : decode cX12_leafOf 7 = .ok (.ifCond .eq 7, 3) := by decide +kernel
theorem dX12_leafOf_10 : decode cX12_leafOf 10 = .ok (.iconst 0, 1) := by decide +kernel
theorem dX12_leafOf_11 : decode cX12_leafOf 11 = .ok (.goto 77, 3) := by decide +kernel
theorem dX12_leafOf_14 : decode cX12_leafOf 14 = .ok (.aload_n 0, 1) := by decide +kernel
theorem dX12_leafOf_15 : decode cX12_leafOf 15 = .ok (.ldc2_w 179, 3) := by decide +kernel
theorem dX12_leafOf_18 : decode cX12_leafOf 18 = .ok (.invokevirtual 248, 3) := by decide +kernel
theorem dX12_leafOf_21 : decode cX12_leafOf 21 = .ok (.ifCond .eq 7, 3) := by decide +kernel
theorem dX12_leafOf_24 : decode cX12_leafOf 24 = .ok (.iconst 1, 1) := by decide +kernel
theorem dX12_leafOf_25 : decode cX12_leafOf 25 = .ok (.goto 63, 3) := by decide +kernel
theorem dX12_leafOf_28 : decode cX12_leafOf 28 = .ok (.aload_n 0, 1) := by decide +kernel
theorem dX12_leafOf_29 : decode cX12_leafOf 29 = .ok (.ldc2_w 181, 3) := by decide +kernel
theorem dX12_leafOf_32 : decode cX12_leafOf 32 = .ok (.invokevirtual 248, 3) := by decide +kernel
theorem dX12_leafOf_35 : decode cX12_leafOf 35 = .ok (.ifCond .eq 7, 3) := by decide +kernel
theorem dX12_leafOf_38 : decode cX12_leafOf 38 = .ok (.iconst 2, 1) := by decide +kernel
theorem dX12_leafOf_39 : decode cX12_leafOf 39 = .ok (.goto 49, 3) := by decide +kernel
theorem dX12_leafOf_42 : decode cX12_leafOf 42 = .ok (.aload_n 0, 1) := by decide +kernel
theorem dX12_leafOf_43 : decode cX12_leafOf 43 = .ok (.ldc2_w 183, 3) := by decide +kernel
theorem dX12_leafOf_46 : decode cX12_leafOf 46 = .ok (.invokevirtual 248, 3) := by decide +kernel
theorem dX12_leafOf_49 : decode cX12_leafOf 49 = .ok (.ifCond .eq 7, 3) := by decide +kernel
theorem dX12_leafOf_52 : decode cX12_leafOf 52 = .ok (.iconst 3, 1) := by decide +kernel
theorem dX12_leafOf_53 : decode cX12_leafOf 53 = .ok (.goto 35, 3) := by decide +kernel
theorem dX12_leafOf_56 : decode cX12_leafOf 56 = .ok (.aload_n 0, 1) := by decide +kernel
theorem dX12_leafOf_57 : decode cX12_leafOf 57 = .ok (.ldc2_w 185, 3) := by decide +kernel
theorem dX12_leafOf_60 : decode cX12_leafOf 60 = .ok (.invokevirtual 248, 3) := by decide +kernel
theorem dX12_leafOf_63 : decode cX12_leafOf 63 = .ok (.ifCond .eq 7, 3) := by decide +kernel
theorem dX12_leafOf_66 : decode cX12_leafOf 66 = .ok (.iconst 4, 1) := by decide +kernel
theorem dX12_leafOf_67 : decode cX12_leafOf 67 = .ok (.goto 21, 3) := by decide +kernel
theorem dX12_leafOf_70 : decode cX12_leafOf 70 = .ok (.aload_n 0, 1) := by decide +kernel
theorem dX12_leafOf_71 : decode cX12_leafOf 71 = .ok (.invokevirtual 236, 3) := by decide +kernel
theorem dX12_leafOf_74 : decode cX12_leafOf 74 = .ok (.ifCond .eq 13, 3) := by decide +kernel
theorem dX12_leafOf_77 : decode cX12_leafOf 77 = .ok (.bipush 100, 2) := by decide +kernel
theorem dX12_leafOf_79 : decode cX12_leafOf 79 = .ok (.aload_n 0, 1) := by decide +kernel
theorem dX12_leafOf_80 : decode cX12_leafOf 80 = .ok (.invokevirtual 564, 3) := by decide +kernel
theorem dX12_leafOf_83 : decode cX12_leafOf 83 = .ok (.iadd, 1) := by decide +kernel
theorem dX12_leafOf_84 : decode cX12_leafOf 84 = .ok (.goto 4, 3) := by decide +kernel
theorem dX12_leafOf_87 : decode cX12_leafOf 87 = .ok (.iconst (-1), 1) := by decide +kernel
theorem dX12_leafOf_88 : decode cX12_leafOf 88 = .ok (.ireturn, 1) := by decide +kernel
abbrev M_X12_leafOf : mM := (cX12_leafOf, 1, RX12, some .int, false, 2, 45, 0, 0)
theorem gX12_leafOf : cI yX12_leafOf M_X12_leafOf 0 := ⟨(wsl_70 _ (List.mem_of_getElem? (i := 0) rfl)), (wsl_70 _ (List.mem_of_getElem? (i := 1) rfl)), (wsl_1 _ (List.mem_of_getElem? (i := 5) rfl)), (wsl_70 _ (List.mem_of_getElem? (i := 2) rfl)), by decide +kernel⟩
noncomputable def fX12_leafOf (h : hH) (a0 : Int) : Option (Int) :=
  (fX12_isWord h a0 1650553445).bind fun r4 =>
  if r4 = 0 then
    (fX12_isWord h a0 461414299502).bind fun r18 =>
    if r18 = 0 then
      (fX12_isWord h a0 108243635103086).bind fun r32 =>
      if r32 = 0 then
        (fX12_isWord h a0 26990).bind fun r46 =>
        if r46 = 0 then
          (fX12_isWord h a0 7499639).bind fun r60 =>
          if r60 = 0 then
            (fX12_isName h a0).bind fun r71 =>
            if r71 = 0 then
              some (-1)
            else
              (fX12_packOf h a0).bind fun r80 =>
              some (w32 (100 + r80))
          else
            some 4
        else
          some 3
      else
        some 2
    else
      some 1
  else
    some 0
section M_X12_leafOf
variable {p : Program} {l : Launch} {e : Env} {R : Room} {s : State} {m : MethodId} {args : Array Value} {below : List Frame} {meth : Method} {c : Code} {D : va_G} {G : gG} {A : Nat → Prop} {H0 : Heap} {n0 : Int} {x : Option vV × hH} {h : hH}
set_option maxRecDepth 100000 in
set_option maxHeartbeats 4000000 in
theorem oX12_leafOf_b0 {a0 : Int} {K : Int → Prop} (k0 : ∀ r, K (r) → x = (some (0, r), h)) {r : Int} (hr : fX12_leafOf h a0 = some r) (hk : K r) : Wq p l e R s m args below meth c D G A H0 true n0 M_X12_leafOf x 0 0 0 [(0, (22, a0))] [] h := by
  unfold fX12_leafOf at hr
  refine r_aload_n dX12_leafOf_0 rfl 0 rfl (nl rfl) ?_
  refine r_ldc2' (v := 1650553445) dX12_leafOf_1 (by decide) (wsl_9 _ (List.mem_of_getElem? (i := 16) rfl)) ?_
  obtain ⟨r4, hg4, hr⟩ := bnd hr
  refine k_V (ci := 12) (o := a0) (T := TX12) (as := [(1, 1650553445)]) (rest := []) (X := (some (2, r4), h)) (oX12_isWord hg4) gX12_isWord rfl (by decide) rfl (wsl_24 _ (List.mem_of_getElem? (i := 22) rfl)) rfl dX12_leafOf_4 rfl ?_
  refine r_scast 0 (v := (2, r4)) (w := (0, r4)) rfl zc hTz (st' := [(0, r4)]) rfl ?_
  refine r_if_eq dX12_leafOf_7 (tgt := 14) (by decide) (fun hc => ?_) (fun hc => ?_)
  · have hr := ifp hr hc
    refine r_aload_n dX12_leafOf_14 rfl 0 rfl (nl rfl) ?_
    refine r_ldc2' (v := 461414299502) dX12_leafOf_15 (by decide) (wsl_9 _ (List.mem_of_getElem? (i := 17) rfl)) ?_
    obtain ⟨r18, hg18, hr⟩ := bnd hr
    refine k_V (ci := 12) (o := a0) (T := TX12) (as := [(1, 461414299502)]) (rest := []) (X := (some (2, r18), h)) (oX12_isWord hg18) gX12_isWord rfl (by decide) rfl (wsl_24 _ (List.mem_of_getElem? (i := 22) rfl)) rfl dX12_leafOf_18 rfl ?_
    refine r_scast 0 (v := (2, r18)) (w := (0, r18)) rfl zc hTz (st' := [(0, r18)]) rfl ?_
    refine r_if_eq dX12_leafOf_21 (tgt := 28) (by decide) (fun hc => ?_) (fun hc => ?_)
    · have hr := ifp hr hc
      refine r_aload_n dX12_leafOf_28 rfl 0 rfl (nl rfl) ?_
      refine r_ldc2' (v := 108243635103086) dX12_leafOf_29 (by decide) (wsl_9 _ (List.mem_of_getElem? (i := 18) rfl)) ?_
      obtain ⟨r32, hg32, hr⟩ := bnd hr
      refine k_V (ci := 12) (o := a0) (T := TX12) (as := [(1, 108243635103086)]) (rest := []) (X := (some (2, r32), h)) (oX12_isWord hg32) gX12_isWord rfl (by decide) rfl (wsl_24 _ (List.mem_of_getElem? (i := 22) rfl)) rfl dX12_leafOf_32 rfl ?_
      refine r_scast 0 (v := (2, r32)) (w := (0, r32)) rfl zc hTz (st' := [(0, r32)]) rfl ?_
      refine r_if_eq dX12_leafOf_35 (tgt := 42) (by decide) (fun hc => ?_) (fun hc => ?_)
      · have hr := ifp hr hc
        refine r_aload_n dX12_leafOf_42 rfl 0 rfl (nl rfl) ?_
        refine r_ldc2' (v := 26990) dX12_leafOf_43 (by decide) (wsl_9 _ (List.mem_of_getElem? (i := 19) rfl)) ?_
        obtain ⟨r46, hg46, hr⟩ := bnd hr
        refine k_V (ci := 12) (o := a0) (T := TX12) (as := [(1, 26990)]) (rest := []) (X := (some (2, r46), h)) (oX12_isWord hg46) gX12_isWord rfl (by decide) rfl (wsl_24 _ (List.mem_of_getElem? (i := 22) rfl)) rfl dX12_leafOf_46 rfl ?_
        refine r_scast 0 (v := (2, r46)) (w := (0, r46)) rfl zc hTz (st' := [(0, r46)]) rfl ?_
        refine r_if_eq dX12_leafOf_49 (tgt := 56) (by decide) (fun hc => ?_) (fun hc => ?_)
        · have hr := ifp hr hc
          refine r_aload_n dX12_leafOf_56 rfl 0 rfl (nl rfl) ?_
          refine r_ldc2' (v := 7499639) dX12_leafOf_57 (by decide) (wsl_9 _ (List.mem_of_getElem? (i := 20) rfl)) ?_
          obtain ⟨r60, hg60, hr⟩ := bnd hr
          refine k_V (ci := 12) (o := a0) (T := TX12) (as := [(1, 7499639)]) (rest := []) (X := (some (2, r60), h)) (oX12_isWord hg60) gX12_isWord rfl (by decide) rfl (wsl_24 _ (List.mem_of_getElem? (i := 22) rfl)) rfl dX12_leafOf_60 rfl ?_
          refine r_scast 0 (v := (2, r60)) (w := (0, r60)) rfl zc hTz (st' := [(0, r60)]) rfl ?_
          refine r_if_eq dX12_leafOf_63 (tgt := 70) (by decide) (fun hc => ?_) (fun hc => ?_)
          · have hr := ifp hr hc
            refine r_aload_n dX12_leafOf_70 rfl 0 rfl (nl rfl) ?_
            obtain ⟨r71, hg71, hr⟩ := bnd hr
            refine k_V (ci := 12) (o := a0) (T := TX12) (as := []) (rest := []) (X := (some (2, r71), h)) (oX12_isName hg71) gX12_isName rfl (by decide) rfl (wsl_25 _ (List.mem_of_getElem? (i := 10) rfl)) rfl dX12_leafOf_71 rfl ?_
            refine r_scast 0 (v := (2, r71)) (w := (0, r71)) rfl zc hTz (st' := [(0, r71)]) rfl ?_
            refine r_if_eq dX12_leafOf_74 (tgt := 87) (by decide) (fun hc => ?_) (fun hc => ?_)
            · have hr := ifp hr hc
              refine r_iconst dX12_leafOf_87 (by decide) ?_
              obtain rfl := Option.some.inj hr
              exact r_ret dX12_leafOf_88 rfl (Or.inl ⟨rfl, rfl⟩) (k0 _ hk) ⟨rfl, rfl⟩
            · have hr := ifn hr hc
              refine r_bipush dX12_leafOf_77 (by decide) (by decide) ?_
              refine r_aload_n dX12_leafOf_79 rfl 0 rfl (nl rfl) ?_
              obtain ⟨r80, hg80, hr⟩ := bnd hr
              refine k_V (ci := 12) (o := a0) (T := TX12) (as := []) (rest := [(0, 100)]) (X := (some (0, r80), h)) (oX12_packOf hg80) gX12_packOf rfl (by decide) rfl (wsl_70 _ (List.mem_of_getElem? (i := 3) rfl)) rfl dX12_leafOf_80 rfl ?_
              refine r_iadd dX12_leafOf_83 ?_
              refine r_goto dX12_leafOf_84 (tgt := 88) (by decide) ?_
              obtain rfl := Option.some.inj hr
              exact r_ret dX12_leafOf_88 rfl (Or.inl ⟨rfl, rfl⟩) (k0 _ hk) ⟨rfl, rfl⟩
          · have hr := ifn hr hc
            refine r_iconst dX12_leafOf_66 (by decide) ?_
            refine r_goto dX12_leafOf_67 (tgt := 88) (by decide) ?_
            obtain rfl := Option.some.inj hr
            exact r_ret dX12_leafOf_88 rfl (Or.inl ⟨rfl, rfl⟩) (k0 _ hk) ⟨rfl, rfl⟩
        · have hr := ifn hr hc
          refine r_iconst dX12_leafOf_52 (by decide) ?_
          refine r_goto dX12_leafOf_53 (tgt := 88) (by decide) ?_
          obtain rfl := Option.some.inj hr
          exact r_ret dX12_leafOf_88 rfl (Or.inl ⟨rfl, rfl⟩) (k0 _ hk) ⟨rfl, rfl⟩
      · have hr := ifn hr hc
        refine r_iconst dX12_leafOf_38 (by decide) ?_
        refine r_goto dX12_leafOf_39 (tgt := 88) (by decide) ?_
        obtain rfl := Option.some.inj hr
        exact r_ret dX12_leafOf_88 rfl (Or.inl ⟨rfl, rfl⟩) (k0 _ hk) ⟨rfl, rfl⟩
    · have hr := ifn hr hc
      refine r_iconst dX12_leafOf_24 (by decide) ?_
      refine r_goto dX12_leafOf_25 (tgt := 88) (by decide) ?_
      obtain rfl := Option.some.inj hr
      exact r_ret dX12_leafOf_88 rfl (Or.inl ⟨rfl, rfl⟩) (k0 _ hk) ⟨rfl, rfl⟩
  · have hr := ifn hr hc
    refine r_iconst dX12_leafOf_10 (by decide) ?_
    refine r_goto dX12_leafOf_11 (tgt := 88) (by decide) ?_
    obtain rfl := Option.some.inj hr
    exact r_ret dX12_leafOf_88 rfl (Or.inl ⟨rfl, rfl⟩) (k0 _ hk) ⟨rfl, rfl⟩
end M_X12_leafOf
theorem oX12_leafOf {l : Launch} {D : va_G} {G : gG} {h : hH} {a0 : Int} {r : Int} (hr : fX12_leafOf h a0 = some r) : Ctr l D G true yX12_leafOf M_X12_leafOf [(22, a0)] h (some (0, r), h) :=
  Ctr_of (by decide) rfl (fun z => by cases z) (nl rfl) (fun {p e R s m args below meth c A H0} => by
    exact oX12_leafOf_b0 (K := fun z9 => z9 = r) (fun r9 z => by rw [z]) hr rfl)
