/-! X5_readTable -/
theorem dX5_readTable_0 : decode cX5_readTable 0 = .ok (.aload_n 0, 1) := by decide +kernel
theorem dX5_readTable_1 : decode cX5_readTable 1 = .ok (.getfield 18, 3) := by decide +kernel
theorem dX5_readTable_4 : decode cX5_readTable 4 = .ok (.invokevirtual 79, 3) := by decide +kernel
theorem dX5_readTable_7 : decode cX5_readTable 7 = .ok (.aload_n 0, 1) := by decide +kernel
theorem dX5_readTable_8 : decode cX5_readTable 8 = .ok (.getfield 18, 3) := by decide +kernel
theorem dX5_readTable_11 : decode cX5_readTable 11 = .ok (.getfield 35, 3) := by decide +kernel
theorem dX5_readTable_14 : decode cX5_readTable 14 = .ok (.iconst 4, 1) := by decide +kernel
theorem dX5_readTable_15 : decode cX5_readTable 15 = .ok (.if_icmp .eq 12, 3) := by decide +kernel
theorem dX5_readTable_18 : decode cX5_readTable 18 = .ok (.aload_n 0, 1) := by decide +kernel
theorem dX5_readTable_19 : decode cX5_readTable 19 = .ok (.getfield 18, 3) := by decide +kernel
theorem dX5_readTable_22 : decode cX5_readTable 22 = .ok (.iconst 1, 1) := by decide +kernel
theorem dX5_readTable_23 : decode cX5_readTable 23 = .ok (.invokevirtual 42, 3) := by decide +kernel
theorem dX5_readTable_26 : decode cX5_readTable 26 = .ok (.ireturn, 1) := by decide +kernel
theorem dX5_readTable_27 : decode cX5_readTable 27 = .ok (.aload_n 0, 1) := by decide +kernel
theorem dX5_readTable_28 : decode cX5_readTable 28 = .ok (.getfield 12, 3) := by decide +kernel
theorem dX5_readTable_31 : decode cX5_readTable 31 = .ok (.aload_n 0, 1) := by decide +kernel
theorem dX5_readTable_32 : decode cX5_readTable 32 = .ok (.getfield 18, 3) := by decide +kernel
theorem dX5_readTable_35 : decode cX5_readTable 35 = .ok (.getfield 82, 3) := by decide +kernel
theorem dX5_readTable_38 : decode cX5_readTable 38 = .ok (.invokevirtual 86, 3) := by decide +kernel
theorem dX5_readTable_41 : decode cX5_readTable 41 = .ok (.iconst (-1), 1) := by decide +kernel
theorem dX5_readTable_42 : decode cX5_readTable 42 = .ok (.if_icmp .eq 12, 3) := by decide +kernel
theorem dX5_readTable_45 : decode cX5_readTable 45 = .ok (.aload_n 0, 1) := by decide +kernel
theorem dX5_readTable_46 : decode cX5_readTable 46 = .ok (.getfield 18, 3) := by decide +kernel
theorem dX5_readTable_49 : decode cX5_readTable 49 = .ok (.iconst 3, 1) := by decide +kernel
theorem dX5_readTable_50 : decode cX5_readTable 50 = .ok (.invokevirtual 42, 3) := by decide +kernel
theorem dX5_readTable_53 : decode cX5_readTable 53 = .ok (.ireturn, 1) := by decide +kernel
theorem dX5_readTable_54 : decode cX5_readTable 54 = .ok (.aload_n 0, 1) := by decide +kernel
theorem dX5_readTable_55 : decode cX5_readTable 55 = .ok (.getfield 12, 3) := by decide +kernel
theorem dX5_readTable_58 : decode cX5_readTable 58 = .ok (.getfield 67, 3) := by decide +kernel
theorem dX5_readTable_61 : decode cX5_readTable 61 = .ok (.istore_n 1, 1) := by decide +kernel
theorem dX5_readTable_62 : decode cX5_readTable 62 = .ok (.aload_n 0, 1) := by decide +kernel
theorem dX5_readTable_63 : decode cX5_readTable 63 = .ok (.getfield 12, 3) := by decide +kernel
theorem dX5_readTable_66 : decode cX5_readTable 66 = .ok (.aload_n 0, 1) := by decide +kernel
theorem dX5_readTable_67 : decode cX5_readTable 67 = .ok (.getfield 18, 3) := by decide +kernel
theorem dX5_readTable_70 : decode cX5_readTable 70 = .ok (.getfield 82, 3) := by decide +kernel
theorem dX5_readTable_73 : decode cX5_readTable 73 = .ok (.invokevirtual 90, 3) := by decide +kernel
theorem dX5_readTable_76 : decode cX5_readTable 76 = .ok (.aload_n 0, 1) := by decide +kernel
theorem dX5_readTable_77 : decode cX5_readTable 77 = .ok (.getfield 18, 3) := by decide +kernel
theorem dX5_readTable_80 : decode cX5_readTable 80 = .ok (.invokevirtual 79, 3) := by decide +kernel
theorem dX5_readTable_83 : decode cX5_readTable 83 = .ok (.aload_n 0, 1) := by decide +kernel
theorem dX5_readTable_84 : decode cX5_readTable 84 = .ok (.getfield 18, 3) := by decide +kernel
theorem dX5_readTable_87 : decode cX5_readTable 87 = .ok (.getfield 35, 3) := by decide +kernel
theorem dX5_readTable_90 : decode cX5_readTable 90 = .ok (.iconst 4, 1) := by decide +kernel
theorem dX5_readTable_91 : decode cX5_readTable 91 = .ok (.if_icmp .eq 12, 3) := by decide +kernel
theorem dX5_readTable_94 : decode cX5_readTable 94 = .ok (.aload_n 0, 1) := by decide +kernel
theorem dX5_readTable_95 : decode cX5_readTable 95 = .ok (.getfield 18, 3) := by decide +kernel
theorem dX5_readTable_98 : decode cX5_readTable 98 = .ok (.iconst 1, 1) := by decide +kernel
theorem dX5_readTable_99 : decode cX5_readTable 99 = .ok (.invokevirtual 42, 3) := by decide +kernel
theorem dX5_readTable_102 : decode cX5_readTable 102 = .ok (.ireturn, 1) := by decide +kernel
theorem dX5_readTable_103 : decode cX5_readTable 103 = .ok (.iconst 0, 1) := by decide +kernel
theorem dX5_readTable_104 : decode cX5_readTable 104 = .ok (.istore_n 2, 1) := by decide +kernel
theorem dX5_readTable_105 : decode cX5_readTable 105 = .ok (.iload_n 2, 1) := by decide +kernel
theorem dX5_readTable_106 : decode cX5_readTable 106 = .ok (.iconst 4, 1) := by decide +kernel
theorem dX5_readTable_107 : decode cX5_readTable 107 = .ok (.if_icmp .gt 91, 3) := by decide +kernel
theorem dX5_readTable_110 : decode cX5_readTable 110 = .ok (.aload_n 0, 1) := by decide +kernel
theorem dX5_readTable_111 : decode cX5_readTable 111 = .ok (.getfield 18, 3) := by decide +kernel
theorem dX5_readTable_114 : decode cX5_readTable 114 = .ok (.getfield 35, 3) := by decide +kernel
theorem dX5_readTable_117 : decode cX5_readTable 117 = .ok (.iconst 4, 1) := by decide +kernel
theorem dX5_readTable_118 : decode cX5_readTable 118 = .ok (.if_icmp .ne 80, 3) := by decide +kernel
theorem dX5_readTable_121 : decode cX5_readTable 121 = .ok (.aload_n 0, 1) := by decide +kernel
theorem dX5_readTable_122 : decode cX5_readTable 122 = .ok (.getfield 12, 3) := by decide +kernel
theorem dX5_readTable_125 : decode cX5_readTable 125 = .ok (.iload_n 1, 1) := by decide +kernel
theorem dX5_readTable_126 : decode cX5_readTable 126 = .ok (.aload_n 0, 1) := by decide +kernel
theorem dX5_readTable_127 : decode cX5_readTable 127 = .ok (.getfield 18, 3) := by decide +kernel
theorem dX5_readTable_130 : decode cX5_readTable 130 = .ok (.getfield 82, 3) := by decide +kernel
theorem dX5_readTable_133 : decode cX5_readTable 133 = .ok (.invokevirtual 94, 3) := by decide +kernel
theorem dX5_readTable_136 : decode cX5_readTable 136 = .ok (.iconst (-1), 1) := by decide +kernel
theorem dX5_readTable_137 : decode cX5_readTable 137 = .ok (.if_icmp .eq 12, 3) := by decide +kernel
theorem dX5_readTable_140 : decode cX5_readTable 140 = .ok (.aload_n 0, 1) := by decide +kernel
theorem dX5_readTable_141 : decode cX5_readTable 141 = .ok (.getfield 18, 3) := by decide +kernel
theorem dX5_readTable_144 : decode cX5_readTable 144 = .ok (.iconst 3, 1) := by decide +kernel
theorem dX5_readTable_145 : decode cX5_readTable 145 = .ok (.invokevirtual 42, 3) := by decide +kernel
theorem dX5_readTable_148 : decode cX5_readTable 148 = .ok (.ireturn, 1) := by decide +kernel
theorem dX5_readTable_149 : decode cX5_readTable 149 = .ok (.aload_n 0, 1) := by decide +kernel
theorem dX5_readTable_150 : decode cX5_readTable 150 = .ok (.getfield 12, 3) := by decide +kernel
theorem dX5_readTable_153 : decode cX5_readTable 153 = .ok (.iload_n 1, 1) := by decide +kernel
theorem dX5_readTable_154 : decode cX5_readTable 154 = .ok (.invokevirtual 98, 3) := by decide +kernel
theorem dX5_readTable_157 : decode cX5_readTable 157 = .ok (.iconst 4, 1) := by decide +kernel
theorem dX5_readTable_158 : decode cX5_readTable 158 = .ok (.if_icmp .lt 12, 3) := by decide +kernel
theorem dX5_readTable_161 : decode cX5_readTable 161 = .ok (.aload_n 0, 1) := by decide +kernel
theorem dX5_readTable_162 : decode cX5_readTable 162 = .ok (.getfield 18, 3) := by decide +kernel
theorem dX5_readTable_165 : decode cX5_readTable 165 = .ok (.iconst 4, 1) := by decide +kernel
theorem dX5_readTable_166 : decode cX5_readTable 166 = .ok (.invokevirtual 42, 3) := by decide +kernel
theorem dX5_readTable_169 : decode cX5_readTable 169 = .ok (.ireturn, 1) := by decide +kernel
theorem dX5_readTable_170 : decode cX5_readTable 170 = .ok (.aload_n 0, 1) := by decide +kernel
theorem dX5_readTable_171 : decode cX5_readTable 171 = .ok (.getfield 12, 3) := by decide +kernel
theorem dX5_readTable_174 : decode cX5_readTable 174 = .ok (.iload_n 1, 1) := by decide +kernel
theorem dX5_readTable_175 : decode cX5_readTable 175 = .ok (.aload_n 0, 1) := by decide +kernel
theorem dX5_readTable_176 : decode cX5_readTable 176 = .ok (.getfield 18, 3) := by decide +kernel
theorem dX5_readTable_179 : decode cX5_readTable 179 = .ok (.getfield 82, 3) := by decide +kernel
theorem dX5_readTable_182 : decode cX5_readTable 182 = .ok (.invokevirtual 102, 3) := by decide +kernel
theorem dX5_readTable_185 : decode cX5_readTable 185 = .ok (.aload_n 0, 1) := by decide +kernel
theorem dX5_readTable_186 : decode cX5_readTable 186 = .ok (.getfield 18, 3) := by decide +kernel
theorem dX5_readTable_189 : decode cX5_readTable 189 = .ok (.invokevirtual 79, 3) := by decide +kernel
theorem dX5_readTable_192 : decode cX5_readTable 192 = .ok (.iinc 2 1, 3) := by decide +kernel
theorem dX5_readTable_195 : decode cX5_readTable 195 = .ok (.goto (-90), 3) := by decide +kernel
theorem dX5_readTable_198 : decode cX5_readTable 198 = .ok (.iconst 1, 1) := by decide +kernel
theorem dX5_readTable_199 : decode cX5_readTable 199 = .ok (.ireturn, 1) := by decide +kernel
abbrev M_X5_readTable : mM := (cX5_readTable, 3, RX5, some .boolean, false, 2, 47, 0, 0)
theorem gX5_readTable : cI yX5_readTable M_X5_readTable 0 := ⟨(wsl_16 _ (List.mem_of_getElem? (i := 15) rfl)), (wsl_16 _ (List.mem_of_getElem? (i := 16) rfl)), (wsl_2 _ (List.mem_of_getElem? (i := 7) rfl)), (wsl_16 _ (List.mem_of_getElem? (i := 17) rfl)), by decide +kernel⟩
noncomputable def fX5_readTable_s105 (h0 : hH) (a0 l1 : Int) : hH × Int → Option ((hH × Int) ⊕ (Int × hH)) := fun (h, l2) =>
  if 4 < l2 then
    some (.inr ((1, h)))
  else
    if h (h a0 0) 5 = 4 then
      (fX4_colNamed h (h a0 1) l1 (h (h a0 0) 7)).bind fun r133 =>
      if r133 = -1 then
        (fX4_width h (h a0 1) l1).bind fun r154 =>
        if r154 < 4 then
          (fX4_addCol h (h a0 1) l1 (h (h a0 0) 7)).bind fun h182 =>
          (fX9_step h182 (h182 a0 0)).bind fun h189 =>
          some (.inl (h189, w32 (l2 + 1)))
        else
          (fX9_fail h (h a0 0) 4).bind fun q166 =>
          some (.inr ((q166.1, q166.2)))
      else
        (fX9_fail h (h a0 0) 3).bind fun q145 =>
        some (.inr ((q145.1, q145.2)))
    else
      some (.inr ((1, h)))
noncomputable def fX5_readTable (h : hH) (a0 : Int) : Option (Int × hH) :=
  (fX9_step h (h a0 0)).bind fun h4 =>
  if h4 (h4 a0 0) 5 = 4 then
    (fX4_tableNamed h4 (h4 a0 1) (h4 (h4 a0 0) 7)).bind fun r38 =>
    if r38 = -1 then
      (fX4_addTable h4 (h4 a0 1) (h4 (h4 a0 0) 7)).bind fun h73 =>
      (fX9_step h73 (h73 a0 0)).bind fun h80 =>
      if h80 (h80 a0 0) 5 = 4 then
        lpO (fX5_readTable_s105 h80 a0 (h4 (h4 a0 1) 0)) (h80, 0)
      else
        (fX9_fail h80 (h80 a0 0) 1).bind fun q99 =>
        some (q99.1, q99.2)
    else
      (fX9_fail h4 (h4 a0 0) 3).bind fun q50 =>
      some (q50.1, q50.2)
  else
    (fX9_fail h4 (h4 a0 0) 1).bind fun q23 =>
    some (q23.1, q23.2)
section M_X5_readTable
variable {p : Program} {l : Launch} {e : Env} {R : Room} {s : State} {m : MethodId} {args : Array Value} {below : List Frame} {meth : Method} {c : Code} {D : va_G} {G : gG} {A : Nat → Prop} {H0 : Heap} {n0 : Int} {x : Option vV × hH} {h : hH}
set_option maxRecDepth 100000 in
set_option maxHeartbeats 4000000 in
theorem oX5_readTable_s105 {h0 : hH} {a0 l1 l2 : Int} {K : (hH × Int) ⊕ (Int × hH) → Prop} (k0 : ∀ r, K (.inr (r)) → x = (some (2, r.1), r.2)) (k1 : ∀ (h : hH) (l2 : Int), K (.inl (h, l2)) → Wq p l e R s m args below meth c D G A H0 true n0 M_X5_readTable x 0 0 105 [(0, (15, a0)), (1, (0, l1)), (2, (0, l2))] [] h) {r : (hH × Int) ⊕ (Int × hH)} (hr : fX5_readTable_s105 h0 a0 l1 (h, l2) = some r) (hk : K r) : Wq p l e R s m args below meth c D G A H0 true n0 M_X5_readTable x 0 0 105 [(0, (15, a0)), (1, (0, l1)), (2, (0, l2))] [] h := by
  unfold fX5_readTable_s105 at hr
  refine r_iload_n dX5_readTable_105 rfl 2 rfl (Or.inl rfl) ?_
  refine r_iconst dX5_readTable_106 (by decide) ?_
  refine r_icmp_gt dX5_readTable_107 (tgt := 198) (by decide) (fun hc => ?_) (fun hc => ?_)
  · have hr := ifp hr hc
    refine r_iconst dX5_readTable_198 (by decide) ?_
    refine r_scast 0 (v := (0, 1)) (w := (2, 1)) rfl cz (fun _ => Or.inr rfl) (st' := [(2, 1)]) rfl ?_
    obtain rfl := Option.some.inj hr
    exact r_ret dX5_readTable_199 rfl (Or.inr ⟨rfl, rfl⟩) (k0 _ hk) ⟨rfl, rfl⟩
  · have hr := ifn hr hc
    refine r_aload_n dX5_readTable_110 rfl 0 rfl (nl rfl) ?_
    refine r_get 5 0 (o := a0) (w := (19, h a0 0)) (T := TX5) (ref := "FollowingRefs$SchemaReader") rfl (by decide) rfl (by decide) inlX5 (wsl_5 _ (List.mem_of_getElem? (i := 0) rfl)) rfl dX5_readTable_111 rfl ?_
    refine r_get 9 5 (o := h a0 0) (w := (0, h (h a0 0) 5)) (T := TX9) (ref := "FollowingRefs$Text") rfl (by decide) rfl (by decide) inlX9 (wsl_11 _ (List.mem_of_getElem? (i := 14) rfl)) rfl dX5_readTable_114 rfl ?_
    refine r_iconst dX5_readTable_117 (by decide) ?_
    refine r_icmp_ne dX5_readTable_118 (tgt := 198) (by decide) (fun hc => ?_) (fun hc => ?_)
    · have hr := ifn hr hc
      refine r_iconst dX5_readTable_198 (by decide) ?_
      refine r_scast 0 (v := (0, 1)) (w := (2, 1)) rfl cz (fun _ => Or.inr rfl) (st' := [(2, 1)]) rfl ?_
      obtain rfl := Option.some.inj hr
      exact r_ret dX5_readTable_199 rfl (Or.inr ⟨rfl, rfl⟩) (k0 _ hk) ⟨rfl, rfl⟩
    · have hr := ifp hr hc
      refine r_aload_n dX5_readTable_121 rfl 0 rfl (nl rfl) ?_
      refine r_get 5 1 (o := a0) (w := (14, h a0 1)) (T := TX5) (ref := "FollowingRefs$SchemaReader") rfl (by decide) rfl (by decide) inlX5 (wsl_4 _ (List.mem_of_getElem? (i := 23) rfl)) rfl dX5_readTable_122 rfl ?_
      refine r_iload_n dX5_readTable_125 rfl 1 rfl (Or.inl rfl) ?_
      refine r_aload_n dX5_readTable_126 rfl 0 rfl (nl rfl) ?_
      refine r_get 5 0 (o := a0) (w := (19, h a0 0)) (T := TX5) (ref := "FollowingRefs$SchemaReader") rfl (by decide) rfl (by decide) inlX5 (wsl_5 _ (List.mem_of_getElem? (i := 0) rfl)) rfl dX5_readTable_127 rfl ?_
      refine r_get 9 7 (o := h a0 0) (w := (1, h (h a0 0) 7)) (T := TX9) (ref := "FollowingRefs$Text") rfl (by decide) rfl (by decide) inlX9 (wsl_16 _ (List.mem_of_getElem? (i := 18) rfl)) rfl dX5_readTable_130 rfl ?_
      obtain ⟨r133, hg133, hr⟩ := bnd hr
      refine k_V (ci := 4) (o := h a0 1) (T := TX4) (as := [(0, l1), (1, h (h a0 0) 7)]) (rest := []) (X := (some (0, r133), h)) (oX4_colNamed hg133) gX4_colNamed rfl (by decide) rfl (wsl_17 _ (List.mem_of_getElem? (i := 10) rfl)) rfl dX5_readTable_133 rfl ?_
      refine r_iconst dX5_readTable_136 (by decide) ?_
      refine r_icmp_eq dX5_readTable_137 (tgt := 149) (by decide) (fun hc => ?_) (fun hc => ?_)
      · have hr := ifp hr hc
        refine r_aload_n dX5_readTable_149 rfl 0 rfl (nl rfl) ?_
        refine r_get 5 1 (o := a0) (w := (14, h a0 1)) (T := TX5) (ref := "FollowingRefs$SchemaReader") rfl (by decide) rfl (by decide) inlX5 (wsl_4 _ (List.mem_of_getElem? (i := 23) rfl)) rfl dX5_readTable_150 rfl ?_
        refine r_iload_n dX5_readTable_153 rfl 1 rfl (Or.inl rfl) ?_
        obtain ⟨r154, hg154, hr⟩ := bnd hr
        refine k_V (ci := 4) (o := h a0 1) (T := TX4) (as := [(0, l1)]) (rest := []) (X := (some (0, r154), h)) (oX4_width hg154) gX4_width rfl (by decide) rfl (wsl_17 _ (List.mem_of_getElem? (i := 14) rfl)) rfl dX5_readTable_154 rfl ?_
        refine r_iconst dX5_readTable_157 (by decide) ?_
        refine r_icmp_lt dX5_readTable_158 (tgt := 170) (by decide) (fun hc => ?_) (fun hc => ?_)
        · have hr := ifp hr hc
          refine r_aload_n dX5_readTable_170 rfl 0 rfl (nl rfl) ?_
          refine r_get 5 1 (o := a0) (w := (14, h a0 1)) (T := TX5) (ref := "FollowingRefs$SchemaReader") rfl (by decide) rfl (by decide) inlX5 (wsl_4 _ (List.mem_of_getElem? (i := 23) rfl)) rfl dX5_readTable_171 rfl ?_
          refine r_iload_n dX5_readTable_174 rfl 1 rfl (Or.inl rfl) ?_
          refine r_aload_n dX5_readTable_175 rfl 0 rfl (nl rfl) ?_
          refine r_get 5 0 (o := a0) (w := (19, h a0 0)) (T := TX5) (ref := "FollowingRefs$SchemaReader") rfl (by decide) rfl (by decide) inlX5 (wsl_5 _ (List.mem_of_getElem? (i := 0) rfl)) rfl dX5_readTable_176 rfl ?_
          refine r_get 9 7 (o := h a0 0) (w := (1, h (h a0 0) 7)) (T := TX9) (ref := "FollowingRefs$Text") rfl (by decide) rfl (by decide) inlX9 (wsl_16 _ (List.mem_of_getElem? (i := 18) rfl)) rfl dX5_readTable_179 rfl ?_
          obtain ⟨h182, hg182, hr⟩ := bnd hr
          refine k_V (ci := 4) (o := h a0 1) (T := TX4) (as := [(0, l1), (1, h (h a0 0) 7)]) (rest := []) (X := (none, h182)) (oX4_addCol hg182) gX4_addCol rfl (by decide) rfl (wsl_17 _ (List.mem_of_getElem? (i := 18) rfl)) rfl dX5_readTable_182 rfl ?_
          refine r_aload_n dX5_readTable_185 rfl 0 rfl (nl rfl) ?_
          refine r_get 5 0 (o := a0) (w := (19, h182 a0 0)) (T := TX5) (ref := "FollowingRefs$SchemaReader") rfl (by decide) rfl (by decide) inlX5 (wsl_5 _ (List.mem_of_getElem? (i := 0) rfl)) rfl dX5_readTable_186 rfl ?_
          obtain ⟨h189, hg189, hr⟩ := bnd hr
          refine k_V (ci := 9) (o := h182 a0 0) (T := TX9) (as := []) (rest := []) (X := (none, h189)) (oX9_step hg189) gX9_step rfl (by decide) rfl (wsl_16 _ (List.mem_of_getElem? (i := 19) rfl)) rfl dX5_readTable_189 rfl ?_
          refine r_iinc (k := 2) (v := l2) dX5_readTable_192 rfl (by decide) (lv' := [(2, (0, w32 (l2 + 1))), (0, (15, a0)), (1, (0, l1))]) rfl ?_
          refine r_goto dX5_readTable_195 (tgt := 105) (by decide) ?_
          refine r_sub [1, 2, 0] (lv' := [(0, (15, a0)), (1, (0, l1)), (2, (0, w32 (l2 + 1)))]) rfl ?_
          obtain rfl := Option.some.inj hr
          exact k1 _ _ hk
        · have hr := ifn hr hc
          refine r_aload_n dX5_readTable_161 rfl 0 rfl (nl rfl) ?_
          refine r_get 5 0 (o := a0) (w := (19, h a0 0)) (T := TX5) (ref := "FollowingRefs$SchemaReader") rfl (by decide) rfl (by decide) inlX5 (wsl_5 _ (List.mem_of_getElem? (i := 0) rfl)) rfl dX5_readTable_162 rfl ?_
          refine r_iconst dX5_readTable_165 (by decide) ?_
          obtain ⟨q166, hg166, hr⟩ := bnd hr
          refine k_V (ci := 9) (o := h a0 0) (T := TX9) (as := [(0, 4)]) (rest := []) (X := (some (2, q166.1), q166.2)) (oX9_fail hg166) gX9_fail rfl (by decide) rfl (wsl_16 _ (List.mem_of_getElem? (i := 10) rfl)) rfl dX5_readTable_166 rfl ?_
          obtain rfl := Option.some.inj hr
          exact r_ret dX5_readTable_169 rfl (Or.inr ⟨rfl, rfl⟩) (k0 _ hk) ⟨rfl, rfl⟩
      · have hr := ifn hr hc
        refine r_aload_n dX5_readTable_140 rfl 0 rfl (nl rfl) ?_
        refine r_get 5 0 (o := a0) (w := (19, h a0 0)) (T := TX5) (ref := "FollowingRefs$SchemaReader") rfl (by decide) rfl (by decide) inlX5 (wsl_5 _ (List.mem_of_getElem? (i := 0) rfl)) rfl dX5_readTable_141 rfl ?_
        refine r_iconst dX5_readTable_144 (by decide) ?_
        obtain ⟨q145, hg145, hr⟩ := bnd hr
        refine k_V (ci := 9) (o := h a0 0) (T := TX9) (as := [(0, 3)]) (rest := []) (X := (some (2, q145.1), q145.2)) (oX9_fail hg145) gX9_fail rfl (by decide) rfl (wsl_16 _ (List.mem_of_getElem? (i := 10) rfl)) rfl dX5_readTable_145 rfl ?_
        obtain rfl := Option.some.inj hr
        exact r_ret dX5_readTable_148 rfl (Or.inr ⟨rfl, rfl⟩) (k0 _ hk) ⟨rfl, rfl⟩
set_option maxRecDepth 100000 in
set_option maxHeartbeats 4000000 in
theorem oX5_readTable_b0 {a0 : Int} {K : Int × hH → Prop} (k0 : ∀ r, K (r) → x = (some (2, r.1), r.2)) {r : Int × hH} (hr : fX5_readTable h a0 = some r) (hk : K r) : Wq p l e R s m args below meth c D G A H0 true n0 M_X5_readTable x 0 0 0 [(0, (15, a0))] [] h := by
  unfold fX5_readTable at hr
  refine r_aload_n dX5_readTable_0 rfl 0 rfl (nl rfl) ?_
  refine r_get 5 0 (o := a0) (w := (19, h a0 0)) (T := TX5) (ref := "FollowingRefs$SchemaReader") rfl (by decide) rfl (by decide) inlX5 (wsl_5 _ (List.mem_of_getElem? (i := 0) rfl)) rfl dX5_readTable_1 rfl ?_
  obtain ⟨h4, hg4, hr⟩ := bnd hr
  refine k_V (ci := 9) (o := h a0 0) (T := TX9) (as := []) (rest := []) (X := (none, h4)) (oX9_step hg4) gX9_step rfl (by decide) rfl (wsl_16 _ (List.mem_of_getElem? (i := 19) rfl)) rfl dX5_readTable_4 rfl ?_
  refine r_aload_n dX5_readTable_7 rfl 0 rfl (nl rfl) ?_
  refine r_get 5 0 (o := a0) (w := (19, h4 a0 0)) (T := TX5) (ref := "FollowingRefs$SchemaReader") rfl (by decide) rfl (by decide) inlX5 (wsl_5 _ (List.mem_of_getElem? (i := 0) rfl)) rfl dX5_readTable_8 rfl ?_
  refine r_get 9 5 (o := h4 a0 0) (w := (0, h4 (h4 a0 0) 5)) (T := TX9) (ref := "FollowingRefs$Text") rfl (by decide) rfl (by decide) inlX9 (wsl_11 _ (List.mem_of_getElem? (i := 14) rfl)) rfl dX5_readTable_11 rfl ?_
  refine r_iconst dX5_readTable_14 (by decide) ?_
  refine r_icmp_eq dX5_readTable_15 (tgt := 27) (by decide) (fun hc => ?_) (fun hc => ?_)
  · have hr := ifp hr hc
    refine r_aload_n dX5_readTable_27 rfl 0 rfl (nl rfl) ?_
    refine r_get 5 1 (o := a0) (w := (14, h4 a0 1)) (T := TX5) (ref := "FollowingRefs$SchemaReader") rfl (by decide) rfl (by decide) inlX5 (wsl_4 _ (List.mem_of_getElem? (i := 23) rfl)) rfl dX5_readTable_28 rfl ?_
    refine r_aload_n dX5_readTable_31 rfl 0 rfl (nl rfl) ?_
    refine r_get 5 0 (o := a0) (w := (19, h4 a0 0)) (T := TX5) (ref := "FollowingRefs$SchemaReader") rfl (by decide) rfl (by decide) inlX5 (wsl_5 _ (List.mem_of_getElem? (i := 0) rfl)) rfl dX5_readTable_32 rfl ?_
    refine r_get 9 7 (o := h4 a0 0) (w := (1, h4 (h4 a0 0) 7)) (T := TX9) (ref := "FollowingRefs$Text") rfl (by decide) rfl (by decide) inlX9 (wsl_16 _ (List.mem_of_getElem? (i := 18) rfl)) rfl dX5_readTable_35 rfl ?_
    obtain ⟨r38, hg38, hr⟩ := bnd hr
    refine k_V (ci := 4) (o := h4 a0 1) (T := TX4) (as := [(1, h4 (h4 a0 0) 7)]) (rest := []) (X := (some (0, r38), h4)) (oX4_tableNamed hg38) gX4_tableNamed rfl (by decide) rfl (wsl_16 _ (List.mem_of_getElem? (i := 20) rfl)) rfl dX5_readTable_38 rfl ?_
    refine r_iconst dX5_readTable_41 (by decide) ?_
    refine r_icmp_eq dX5_readTable_42 (tgt := 54) (by decide) (fun hc => ?_) (fun hc => ?_)
    · have hr := ifp hr hc
      refine r_aload_n dX5_readTable_54 rfl 0 rfl (nl rfl) ?_
      refine r_get 5 1 (o := a0) (w := (14, h4 a0 1)) (T := TX5) (ref := "FollowingRefs$SchemaReader") rfl (by decide) rfl (by decide) inlX5 (wsl_4 _ (List.mem_of_getElem? (i := 23) rfl)) rfl dX5_readTable_55 rfl ?_
      refine r_get 4 0 (o := h4 a0 1) (w := (0, h4 (h4 a0 1) 0)) (T := TX4) (ref := "FollowingRefs$Schema") rfl (by decide) rfl (by decide) inlX4 (wsl_16 _ (List.mem_of_getElem? (i := 6) rfl)) rfl dX5_readTable_58 rfl ?_
      refine r_istore_n dX5_readTable_61 rfl (Or.inl rfl) (by decide) (lv' := [(1, (0, h4 (h4 a0 1) 0)), (0, (15, a0))]) rfl ?_
      refine r_aload_n dX5_readTable_62 rfl 1 rfl (nl rfl) ?_
      refine r_get 5 1 (o := a0) (w := (14, h4 a0 1)) (T := TX5) (ref := "FollowingRefs$SchemaReader") rfl (by decide) rfl (by decide) inlX5 (wsl_4 _ (List.mem_of_getElem? (i := 23) rfl)) rfl dX5_readTable_63 rfl ?_
      refine r_aload_n dX5_readTable_66 rfl 1 rfl (nl rfl) ?_
      refine r_get 5 0 (o := a0) (w := (19, h4 a0 0)) (T := TX5) (ref := "FollowingRefs$SchemaReader") rfl (by decide) rfl (by decide) inlX5 (wsl_5 _ (List.mem_of_getElem? (i := 0) rfl)) rfl dX5_readTable_67 rfl ?_
      refine r_get 9 7 (o := h4 a0 0) (w := (1, h4 (h4 a0 0) 7)) (T := TX9) (ref := "FollowingRefs$Text") rfl (by decide) rfl (by decide) inlX9 (wsl_16 _ (List.mem_of_getElem? (i := 18) rfl)) rfl dX5_readTable_70 rfl ?_
      obtain ⟨h73, hg73, hr⟩ := bnd hr
      refine k_V (ci := 4) (o := h4 a0 1) (T := TX4) (as := [(1, h4 (h4 a0 0) 7)]) (rest := []) (X := (none, h73)) (oX4_addTable hg73) gX4_addTable rfl (by decide) rfl (wsl_17 _ (List.mem_of_getElem? (i := 4) rfl)) rfl dX5_readTable_73 rfl ?_
      refine r_aload_n dX5_readTable_76 rfl 1 rfl (nl rfl) ?_
      refine r_get 5 0 (o := a0) (w := (19, h73 a0 0)) (T := TX5) (ref := "FollowingRefs$SchemaReader") rfl (by decide) rfl (by decide) inlX5 (wsl_5 _ (List.mem_of_getElem? (i := 0) rfl)) rfl dX5_readTable_77 rfl ?_
      obtain ⟨h80, hg80, hr⟩ := bnd hr
      refine k_V (ci := 9) (o := h73 a0 0) (T := TX9) (as := []) (rest := []) (X := (none, h80)) (oX9_step hg80) gX9_step rfl (by decide) rfl (wsl_16 _ (List.mem_of_getElem? (i := 19) rfl)) rfl dX5_readTable_80 rfl ?_
      refine r_aload_n dX5_readTable_83 rfl 1 rfl (nl rfl) ?_
      refine r_get 5 0 (o := a0) (w := (19, h80 a0 0)) (T := TX5) (ref := "FollowingRefs$SchemaReader") rfl (by decide) rfl (by decide) inlX5 (wsl_5 _ (List.mem_of_getElem? (i := 0) rfl)) rfl dX5_readTable_84 rfl ?_
      refine r_get 9 5 (o := h80 a0 0) (w := (0, h80 (h80 a0 0) 5)) (T := TX9) (ref := "FollowingRefs$Text") rfl (by decide) rfl (by decide) inlX9 (wsl_11 _ (List.mem_of_getElem? (i := 14) rfl)) rfl dX5_readTable_87 rfl ?_
      refine r_iconst dX5_readTable_90 (by decide) ?_
      refine r_icmp_eq dX5_readTable_91 (tgt := 103) (by decide) (fun hc => ?_) (fun hc => ?_)
      · have hr := ifp hr hc
        refine r_iconst dX5_readTable_103 (by decide) ?_
        refine r_istore_n dX5_readTable_104 rfl (Or.inl rfl) (by decide) (lv' := [(2, (0, 0)), (1, (0, h4 (h4 a0 1) 0)), (0, (15, a0))]) rfl ?_
        refine r_sub [2, 1, 0] (lv' := [(0, (15, a0)), (1, (0, h4 (h4 a0 1) 0)), (2, (0, 0))]) rfl ?_
        exact lp_ok (w := fun (q : hH × Int) => Wq p l e R s m args below meth c D G A H0 true n0 M_X5_readTable x 0 0 105 [(0, (15, a0)), (1, (0, h4 (h4 a0 1) 0)), (2, (0, q.2))] [] (q.1)) (K := K) (fun ⟨q0, q1⟩ r h1 h2 => oX5_readTable_s105 (K := Sum.elim (fun (q : hH × Int) => Wq p l e R s m args below meth c D G A H0 true n0 M_X5_readTable x 0 0 105 [(0, (15, a0)), (1, (0, h4 (h4 a0 1) 0)), (2, (0, q.2))] [] (q.1)) (K)) (fun r z => k0 r z) (fun _ _ z => z) h1 h2) hr hk
      · have hr := ifn hr hc
        refine r_aload_n dX5_readTable_94 rfl 1 rfl (nl rfl) ?_
        refine r_get 5 0 (o := a0) (w := (19, h80 a0 0)) (T := TX5) (ref := "FollowingRefs$SchemaReader") rfl (by decide) rfl (by decide) inlX5 (wsl_5 _ (List.mem_of_getElem? (i := 0) rfl)) rfl dX5_readTable_95 rfl ?_
        refine r_iconst dX5_readTable_98 (by decide) ?_
        obtain ⟨q99, hg99, hr⟩ := bnd hr
        refine k_V (ci := 9) (o := h80 a0 0) (T := TX9) (as := [(0, 1)]) (rest := []) (X := (some (2, q99.1), q99.2)) (oX9_fail hg99) gX9_fail rfl (by decide) rfl (wsl_16 _ (List.mem_of_getElem? (i := 10) rfl)) rfl dX5_readTable_99 rfl ?_
        obtain rfl := Option.some.inj hr
        exact r_ret dX5_readTable_102 rfl (Or.inr ⟨rfl, rfl⟩) (k0 _ hk) ⟨rfl, rfl⟩
    · have hr := ifn hr hc
      refine r_aload_n dX5_readTable_45 rfl 0 rfl (nl rfl) ?_
      refine r_get 5 0 (o := a0) (w := (19, h4 a0 0)) (T := TX5) (ref := "FollowingRefs$SchemaReader") rfl (by decide) rfl (by decide) inlX5 (wsl_5 _ (List.mem_of_getElem? (i := 0) rfl)) rfl dX5_readTable_46 rfl ?_
      refine r_iconst dX5_readTable_49 (by decide) ?_
      obtain ⟨q50, hg50, hr⟩ := bnd hr
      refine k_V (ci := 9) (o := h4 a0 0) (T := TX9) (as := [(0, 3)]) (rest := []) (X := (some (2, q50.1), q50.2)) (oX9_fail hg50) gX9_fail rfl (by decide) rfl (wsl_16 _ (List.mem_of_getElem? (i := 10) rfl)) rfl dX5_readTable_50 rfl ?_
      obtain rfl := Option.some.inj hr
      exact r_ret dX5_readTable_53 rfl (Or.inr ⟨rfl, rfl⟩) (k0 _ hk) ⟨rfl, rfl⟩
  · have hr := ifn hr hc
    refine r_aload_n dX5_readTable_18 rfl 0 rfl (nl rfl) ?_
    refine r_get 5 0 (o := a0) (w := (19, h4 a0 0)) (T := TX5) (ref := "FollowingRefs$SchemaReader") rfl (by decide) rfl (by decide) inlX5 (wsl_5 _ (List.mem_of_getElem? (i := 0) rfl)) rfl dX5_readTable_19 rfl ?_
    refine r_iconst dX5_readTable_22 (by decide) ?_
    obtain ⟨q23, hg23, hr⟩ := bnd hr
    refine k_V (ci := 9) (o := h4 a0 0) (T := TX9) (as := [(0, 1)]) (rest := []) (X := (some (2, q23.1), q23.2)) (oX9_fail hg23) gX9_fail rfl (by decide) rfl (wsl_16 _ (List.mem_of_getElem? (i := 10) rfl)) rfl dX5_readTable_23 rfl ?_
    obtain rfl := Option.some.inj hr
    exact r_ret dX5_readTable_26 rfl (Or.inr ⟨rfl, rfl⟩) (k0 _ hk) ⟨rfl, rfl⟩
end M_X5_readTable
theorem oX5_readTable {l : Launch} {D : va_G} {G : gG} {h : hH} {a0 : Int} {r : Int × hH} (hr : fX5_readTable h a0 = some r) : Ctr l D G true yX5_readTable M_X5_readTable [(15, a0)] h (some (2, r.1), r.2) :=
  Ctr_of (by decide) rfl (fun z => by cases z) (nl rfl) (fun {p e R s m args below meth c A H0} => by
    exact oX5_readTable_b0 (K := fun z9 => z9 = r) (fun r9 z => by rw [z]) hr rfl)
/-! X5_takeCols -/
theorem dX5_takeCols_0 : decode cX5_takeCols 0 = .ok (.aload_n 0, 1) := by decide +kernel
theorem dX5_takeCols_1 : decode cX5_takeCols 1 = .ok (.aload_n 0, 1) := by decide +kernel
theorem dX5_takeCols_2 : decode cX5_takeCols 2 = .ok (.getfield 18, 3) := by decide +kernel
theorem dX5_takeCols_5 : decode cX5_takeCols 5 = .ok (.aload_n 0, 1) := by decide +kernel
theorem dX5_takeCols_6 : decode cX5_takeCols 6 = .ok (.getfield 12, 3) := by decide +kernel
theorem dX5_takeCols_9 : decode cX5_takeCols 9 = .ok (.invokevirtual 106, 3) := by decide +kernel
theorem dX5_takeCols_12 : decode cX5_takeCols 12 = .ok (.putfield 110, 3) := by decide +kernel
theorem dX5_takeCols_15 : decode cX5_takeCols 15 = .ok (.aload_n 0, 1) := by decide +kernel
theorem dX5_takeCols_16 : decode cX5_takeCols 16 = .ok (.aload_n 0, 1) := by decide +kernel
theorem dX5_takeCols_17 : decode cX5_takeCols 17 = .ok (.getfield 110, 3) := by decide +kernel
theorem dX5_takeCols_20 : decode cX5_takeCols 20 = .ok (.iconst (-1), 1) := by decide +kernel
theorem dX5_takeCols_21 : decode cX5_takeCols 21 = .ok (.if_icmp .ne 7, 3) := by decide +kernel
theorem dX5_takeCols_24 : decode cX5_takeCols 24 = .ok (.iconst (-1), 1) := by decide +kernel
theorem dX5_takeCols_25 : decode cX5_takeCols 25 = .ok (.goto 19, 3) := by decide +kernel
theorem dX5_takeCols_28 : decode cX5_takeCols 28 = .ok (.aload_n 0, 1) := by decide +kernel
theorem dX5_takeCols_29 : decode cX5_takeCols 29 = .ok (.getfield 18, 3) := by decide +kernel
theorem dX5_takeCols_32 : decode cX5_takeCols 32 = .ok (.aload_n 0, 1) := by decide +kernel
theorem dX5_takeCols_33 : decode cX5_takeCols 33 = .ok (.getfield 12, 3) := by decide +kernel
theorem dX5_takeCols_36 : decode cX5_takeCols 36 = .ok (.aload_n 0, 1) := by decide +kernel
theorem dX5_takeCols_37 : decode cX5_takeCols 37 = .ok (.getfield 110, 3) := by decide +kernel
theorem dX5_takeCols_40 : decode cX5_takeCols 40 = .ok (.iconst (-1), 1) := by decide +kernel
theorem dX5_takeCols_41 : decode cX5_takeCols 41 = .ok (.invokevirtual 113, 3) := by decide +kernel
theorem dX5_takeCols_44 : decode cX5_takeCols 44 = .ok (.putfield 117, 3) := by decide +kernel
theorem dX5_takeCols_47 : decode cX5_takeCols 47 = .ok (.aload_n 0, 1) := by decide +kernel
theorem dX5_takeCols_48 : decode cX5_takeCols 48 = .ok (.iconst (-1), 1) := by decide +kernel
theorem dX5_takeCols_49 : decode cX5_takeCols 49 = .ok (.putfield 120, 3) := by decide +kernel
theorem dX5_takeCols_52 : decode cX5_takeCols 52 = .ok (.aload_n 0, 1) := by decide +kernel
theorem dX5_takeCols_53 : decode cX5_takeCols 53 = .ok (.getfield 117, 3) := by decide +kernel
theorem dX5_takeCols_56 : decode cX5_takeCols 56 = .ok (.iconst (-1), 1) := by decide +kernel
theorem dX5_takeCols_57 : decode cX5_takeCols 57 = .ok (.if_icmp .eq 51, 3) := by decide +kernel
theorem dX5_takeCols_60 : decode cX5_takeCols 60 = .ok (.aload_n 0, 1) := by decide +kernel
theorem dX5_takeCols_61 : decode cX5_takeCols 61 = .ok (.getfield 18, 3) := by decide +kernel
theorem dX5_takeCols_64 : decode cX5_takeCols 64 = .ok (.getfield 35, 3) := by decide +kernel
theorem dX5_takeCols_67 : decode cX5_takeCols 67 = .ok (.iconst 4, 1) := by decide +kernel
theorem dX5_takeCols_68 : decode cX5_takeCols 68 = .ok (.if_icmp .ne 40, 3) := by decide +kernel
theorem dX5_takeCols_71 : decode cX5_takeCols 71 = .ok (.aload_n 0, 1) := by decide +kernel
theorem dX5_takeCols_72 : decode cX5_takeCols 72 = .ok (.aload_n 0, 1) := by decide +kernel
theorem dX5_takeCols_73 : decode cX5_takeCols 73 = .ok (.getfield 18, 3) := by decide +kernel
theorem dX5_takeCols_76 : decode cX5_takeCols 76 = .ok (.aload_n 0, 1) := by decide +kernel
theorem dX5_takeCols_77 : decode cX5_takeCols 77 = .ok (.getfield 12, 3) := by decide +kernel
theorem dX5_takeCols_80 : decode cX5_takeCols 80 = .ok (.aload_n 0, 1) := by decide +kernel
theorem dX5_takeCols_81 : decode cX5_takeCols 81 = .ok (.getfield 110, 3) := by decide +kernel
theorem dX5_takeCols_84 : decode cX5_takeCols 84 = .ok (.aload_n 0, 1) := by decide +kernel
theorem dX5_takeCols_85 : decode cX5_takeCols 85 = .ok (.getfield 117, 3) := by decide +kernel
theorem dX5_takeCols_88 : decode cX5_takeCols 88 = .ok (.invokevirtual 113, 3) := by decide +kernel
theorem dX5_takeCols_91 : decode cX5_takeCols 91 = .ok (.putfield 120, 3) := by decide +kernel
theorem dX5_takeCols_94 : decode cX5_takeCols 94 = .ok (.aload_n 0, 1) := by decide +kernel
theorem dX5_takeCols_95 : decode cX5_takeCols 95 = .ok (.getfield 120, 3) := by decide +kernel
theorem dX5_takeCols_98 : decode cX5_takeCols 98 = .ok (.iconst (-1), 1) := by decide +kernel
theorem dX5_takeCols_99 : decode cX5_takeCols 99 = .ok (.if_icmp .eq 7, 3) := by decide +kernel
theorem dX5_takeCols_102 : decode cX5_takeCols 102 = .ok (.iconst 1, 1) := by decide +kernel
theorem dX5_takeCols_103 : decode cX5_takeCols 103 = .ok (.goto 4, 3) := by decide +kernel
theorem dX5_takeCols_106 : decode cX5_takeCols 106 = .ok (.iconst 0, 1) := by decide +kernel
theorem dX5_takeCols_107 : decode cX5_takeCols 107 = .ok (.ireturn, 1) := by decide +kernel
theorem dX5_takeCols_108 : decode cX5_takeCols 108 = .ok (.aload_n 0, 1) := by decide +kernel
theorem dX5_takeCols_109 : decode cX5_takeCols 109 = .ok (.getfield 117, 3) := by decide +kernel
theorem dX5_takeCols_112 : decode cX5_takeCols 112 = .ok (.iconst (-1), 1) := by decide +kernel
theorem dX5_takeCols_113 : decode cX5_takeCols 113 = .ok (.if_icmp .eq 7, 3) := by decide +kernel
theorem dX5_takeCols_116 : decode cX5_takeCols 116 = .ok (.iconst 1, 1) := by decide +kernel
theorem dX5_takeCols_117 : decode cX5_takeCols 117 = .ok (.goto 4, 3) := by decide +kernel
theorem dX5_takeCols_120 : decode cX5_takeCols 120 = .ok (.iconst 0, 1) := by decide +kernel
theorem dX5_takeCols_121 : decode cX5_takeCols 121 = .ok (.ireturn, 1) := by decide +kernel
abbrev M_X5_takeCols : mM := (cX5_takeCols, 1, RX5, some .boolean, false, 3, 74, 0, 0)
theorem gX5_takeCols : cI yX5_takeCols M_X5_takeCols 0 := ⟨(wsl_18 _ (List.mem_of_getElem? (i := 7) rfl)), (wsl_18 _ (List.mem_of_getElem? (i := 8) rfl)), (wsl_2 _ (List.mem_of_getElem? (i := 7) rfl)), (wsl_18 _ (List.mem_of_getElem? (i := 9) rfl)), by decide +kernel⟩
noncomputable def fX5_takeCols_b108 (h : hH) (a0 : Int) : Option (Int × hH) :=
  if h a0 4 = -1 then
    some (0, h)
  else
    some (1, h)
noncomputable def fX5_takeCols_b44 (h : hH) (a0 s0 s1 : Int) : Option (Int × hH) :=
  (pput h s1 4 s0).bind fun h44 =>
  (pput h44 a0 5 (-1)).bind fun h49 =>
  if h49 a0 4 = -1 then
    fX5_takeCols_b108 h49 a0
  else
    if h49 (h49 a0 0) 5 = 4 then
      (fX9_takeCol h49 (h49 a0 0) (h49 a0 1) (h49 a0 3) (h49 a0 4)).bind fun q88 =>
      (pput q88.2 a0 5 q88.1).bind fun h91 =>
      if h91 a0 5 = -1 then
        some (0, h91)
      else
        some (1, h91)
    else
      fX5_takeCols_b108 h49 a0
noncomputable def fX5_takeCols (h : hH) (a0 : Int) : Option (Int × hH) :=
  (fX9_takeTable h (h a0 0) (h a0 1)).bind fun q9 =>
  (pput q9.2 a0 3 q9.1).bind fun h12 =>
  if h12 a0 3 = -1 then
    fX5_takeCols_b44 h12 a0 (-1) a0
  else
    (fX9_takeCol h12 (h12 a0 0) (h12 a0 1) (h12 a0 3) (-1)).bind fun q41 =>
    fX5_takeCols_b44 q41.2 a0 q41.1 a0
section M_X5_takeCols
variable {p : Program} {l : Launch} {e : Env} {R : Room} {s : State} {m : MethodId} {args : Array Value} {below : List Frame} {meth : Method} {c : Code} {D : va_G} {G : gG} {A : Nat → Prop} {H0 : Heap} {n0 : Int} {x : Option vV × hH} {h : hH}
set_option maxRecDepth 100000 in
set_option maxHeartbeats 4000000 in
theorem oX5_takeCols_b108 {a0 : Int} {K : Int × hH → Prop} (k0 : ∀ r, K (r) → x = (some (2, r.1), r.2)) {r : Int × hH} (hr : fX5_takeCols_b108 h a0 = some r) (hk : K r) : Wq p l e R s m args below meth c D G A H0 true n0 M_X5_takeCols x 0 0 108 [(0, (15, a0))] [] h := by
  unfold fX5_takeCols_b108 at hr
  refine r_aload_n dX5_takeCols_108 rfl 0 rfl (nl rfl) ?_
  refine r_get 5 4 (o := a0) (w := (0, h a0 4)) (T := TX5) (ref := "FollowingRefs$SchemaReader") rfl (by decide) rfl (by decide) inlX5 (wsl_18 _ (List.mem_of_getElem? (i := 4) rfl)) rfl dX5_takeCols_109 rfl ?_
  refine r_iconst dX5_takeCols_112 (by decide) ?_
  refine r_icmp_eq dX5_takeCols_113 (tgt := 120) (by decide) (fun hc => ?_) (fun hc => ?_)
  · have hr := ifp hr hc
    refine r_iconst dX5_takeCols_120 (by decide) ?_
    refine r_scast 0 (v := (0, 0)) (w := (2, 0)) rfl cz (fun _ => Or.inl rfl) (st' := [(2, 0)]) rfl ?_
    obtain rfl := Option.some.inj hr
    exact r_ret dX5_takeCols_121 rfl (Or.inr ⟨rfl, rfl⟩) (k0 _ hk) ⟨rfl, rfl⟩
  · have hr := ifn hr hc
    refine r_iconst dX5_takeCols_116 (by decide) ?_
    refine r_goto dX5_takeCols_117 (tgt := 121) (by decide) ?_
    refine r_scast 0 (v := (0, 1)) (w := (2, 1)) rfl cz (fun _ => Or.inr rfl) (st' := [(2, 1)]) rfl ?_
    obtain rfl := Option.some.inj hr
    exact r_ret dX5_takeCols_121 rfl (Or.inr ⟨rfl, rfl⟩) (k0 _ hk) ⟨rfl, rfl⟩
set_option maxRecDepth 100000 in
set_option maxHeartbeats 4000000 in
theorem oX5_takeCols_b44 {a0 s0 s1 : Int} {K : Int × hH → Prop} (k0 : ∀ r, K (r) → x = (some (2, r.1), r.2)) {r : Int × hH} (hr : fX5_takeCols_b44 h a0 s0 s1 = some r) (hk : K r) : Wq p l e R s m args below meth c D G A H0 true n0 M_X5_takeCols x 0 0 44 [(0, (15, a0))] [(0, s0), (15, s1)] h := by
  unfold fX5_takeCols_b44 at hr
  obtain ⟨h44, hg44, hr⟩ := bnd hr
  refine r_put' 5 4 (t := 0) (ref := "FollowingRefs$SchemaReader") hg44 rfl tyX5 tyX5_ok nmX5 rfl (by decide) rfl (by decide) inlX5 (wsl_18 _ (List.mem_of_getElem? (i := 4) rfl)) rfl rfl (by decide +kernel) (by decide) rfl (Or.inl ⟨rfl, rfl⟩) dX5_takeCols_44 ?_
  refine r_aload_n dX5_takeCols_47 rfl 0 rfl (nl rfl) ?_
  refine r_iconst dX5_takeCols_48 (by decide) ?_
  obtain ⟨h49, hg49, hr⟩ := bnd hr
  refine r_put' 5 5 (t := 0) (ref := "FollowingRefs$SchemaReader") hg49 rfl tyX5 tyX5_ok nmX5 rfl (by decide) rfl (by decide) inlX5 (wsl_18 _ (List.mem_of_getElem? (i := 5) rfl)) rfl rfl (by decide +kernel) (by decide) rfl (Or.inl ⟨rfl, rfl⟩) dX5_takeCols_49 ?_
  refine r_aload_n dX5_takeCols_52 rfl 0 rfl (nl rfl) ?_
  refine r_get 5 4 (o := a0) (w := (0, h49 a0 4)) (T := TX5) (ref := "FollowingRefs$SchemaReader") rfl (by decide) rfl (by decide) inlX5 (wsl_18 _ (List.mem_of_getElem? (i := 4) rfl)) rfl dX5_takeCols_53 rfl ?_
  refine r_iconst dX5_takeCols_56 (by decide) ?_
  refine r_icmp_eq dX5_takeCols_57 (tgt := 108) (by decide) (fun hc => ?_) (fun hc => ?_)
  · have hr := ifp hr hc
    exact oX5_takeCols_b108 (K := K) (fun r z => k0 r z) hr hk
  · have hr := ifn hr hc
    refine r_aload_n dX5_takeCols_60 rfl 0 rfl (nl rfl) ?_
    refine r_get 5 0 (o := a0) (w := (19, h49 a0 0)) (T := TX5) (ref := "FollowingRefs$SchemaReader") rfl (by decide) rfl (by decide) inlX5 (wsl_5 _ (List.mem_of_getElem? (i := 0) rfl)) rfl dX5_takeCols_61 rfl ?_
    refine r_get 9 5 (o := h49 a0 0) (w := (0, h49 (h49 a0 0) 5)) (T := TX9) (ref := "FollowingRefs$Text") rfl (by decide) rfl (by decide) inlX9 (wsl_11 _ (List.mem_of_getElem? (i := 14) rfl)) rfl dX5_takeCols_64 rfl ?_
    refine r_iconst dX5_takeCols_67 (by decide) ?_
    refine r_icmp_ne dX5_takeCols_68 (tgt := 108) (by decide) (fun hc => ?_) (fun hc => ?_)
    · have hr := ifn hr hc
      exact oX5_takeCols_b108 (K := K) (fun r z => k0 r z) hr hk
    · have hr := ifp hr hc
      refine r_aload_n dX5_takeCols_71 rfl 0 rfl (nl rfl) ?_
      refine r_aload_n dX5_takeCols_72 rfl 0 rfl (nl rfl) ?_
      refine r_get 5 0 (o := a0) (w := (19, h49 a0 0)) (T := TX5) (ref := "FollowingRefs$SchemaReader") rfl (by decide) rfl (by decide) inlX5 (wsl_5 _ (List.mem_of_getElem? (i := 0) rfl)) rfl dX5_takeCols_73 rfl ?_
      refine r_aload_n dX5_takeCols_76 rfl 0 rfl (nl rfl) ?_
      refine r_get 5 1 (o := a0) (w := (14, h49 a0 1)) (T := TX5) (ref := "FollowingRefs$SchemaReader") rfl (by decide) rfl (by decide) inlX5 (wsl_4 _ (List.mem_of_getElem? (i := 23) rfl)) rfl dX5_takeCols_77 rfl ?_
      refine r_aload_n dX5_takeCols_80 rfl 0 rfl (nl rfl) ?_
      refine r_get 5 3 (o := a0) (w := (0, h49 a0 3)) (T := TX5) (ref := "FollowingRefs$SchemaReader") rfl (by decide) rfl (by decide) inlX5 (wsl_18 _ (List.mem_of_getElem? (i := 3) rfl)) rfl dX5_takeCols_81 rfl ?_
      refine r_aload_n dX5_takeCols_84 rfl 0 rfl (nl rfl) ?_
      refine r_get 5 4 (o := a0) (w := (0, h49 a0 4)) (T := TX5) (ref := "FollowingRefs$SchemaReader") rfl (by decide) rfl (by decide) inlX5 (wsl_18 _ (List.mem_of_getElem? (i := 4) rfl)) rfl dX5_takeCols_85 rfl ?_
      obtain ⟨q88, hg88, hr⟩ := bnd hr
      refine k_V (ci := 9) (o := h49 a0 0) (T := TX9) (as := [(14, h49 a0 1), (0, h49 a0 3), (0, h49 a0 4)]) (rest := [(15, a0)]) (X := (some (0, q88.1), q88.2)) (oX9_takeCol hg88) gX9_takeCol rfl (by decide) rfl (wsl_18 _ (List.mem_of_getElem? (i := 16) rfl)) rfl dX5_takeCols_88 rfl ?_
      obtain ⟨h91, hg91, hr⟩ := bnd hr
      refine r_put' 5 5 (t := 0) (ref := "FollowingRefs$SchemaReader") hg91 rfl tyX5 tyX5_ok nmX5 rfl (by decide) rfl (by decide) inlX5 (wsl_18 _ (List.mem_of_getElem? (i := 5) rfl)) rfl rfl (by decide +kernel) (by decide) rfl (Or.inl ⟨rfl, rfl⟩) dX5_takeCols_91 ?_
      refine r_aload_n dX5_takeCols_94 rfl 0 rfl (nl rfl) ?_
      refine r_get 5 5 (o := a0) (w := (0, h91 a0 5)) (T := TX5) (ref := "FollowingRefs$SchemaReader") rfl (by decide) rfl (by decide) inlX5 (wsl_18 _ (List.mem_of_getElem? (i := 5) rfl)) rfl dX5_takeCols_95 rfl ?_
      refine r_iconst dX5_takeCols_98 (by decide) ?_
      refine r_icmp_eq dX5_takeCols_99 (tgt := 106) (by decide) (fun hc => ?_) (fun hc => ?_)
      · have hr := ifp hr hc
        refine r_iconst dX5_takeCols_106 (by decide) ?_
        refine r_scast 0 (v := (0, 0)) (w := (2, 0)) rfl cz (fun _ => Or.inl rfl) (st' := [(2, 0)]) rfl ?_
        obtain rfl := Option.some.inj hr
        exact r_ret dX5_takeCols_107 rfl (Or.inr ⟨rfl, rfl⟩) (k0 _ hk) ⟨rfl, rfl⟩
      · have hr := ifn hr hc
        refine r_iconst dX5_takeCols_102 (by decide) ?_
        refine r_goto dX5_takeCols_103 (tgt := 107) (by decide) ?_
        refine r_scast 0 (v := (0, 1)) (w := (2, 1)) rfl cz (fun _ => Or.inr rfl) (st' := [(2, 1)]) rfl ?_
        obtain rfl := Option.some.inj hr
        exact r_ret dX5_takeCols_107 rfl (Or.inr ⟨rfl, rfl⟩) (k0 _ hk) ⟨rfl, rfl⟩
set_option maxRecDepth 100000 in
set_option maxHeartbeats 4000000 in
theorem oX5_takeCols_b0 {a0 : Int} {K : Int × hH → Prop} (k0 : ∀ r, K (r) → x = (some (2, r.1), r.2)) {r : Int × hH} (hr : fX5_takeCols h a0 = some r) (hk : K r) : Wq p l e R s m args below meth c D G A H0 true n0 M_X5_takeCols x 0 0 0 [(0, (15, a0))] [] h := by
  unfold fX5_takeCols at hr
  refine r_aload_n dX5_takeCols_0 rfl 0 rfl (nl rfl) ?_
  refine r_aload_n dX5_takeCols_1 rfl 0 rfl (nl rfl) ?_
  refine r_get 5 0 (o := a0) (w := (19, h a0 0)) (T := TX5) (ref := "FollowingRefs$SchemaReader") rfl (by decide) rfl (by decide) inlX5 (wsl_5 _ (List.mem_of_getElem? (i := 0) rfl)) rfl dX5_takeCols_2 rfl ?_
  refine r_aload_n dX5_takeCols_5 rfl 0 rfl (nl rfl) ?_
  refine r_get 5 1 (o := a0) (w := (14, h a0 1)) (T := TX5) (ref := "FollowingRefs$SchemaReader") rfl (by decide) rfl (by decide) inlX5 (wsl_4 _ (List.mem_of_getElem? (i := 23) rfl)) rfl dX5_takeCols_6 rfl ?_
  obtain ⟨q9, hg9, hr⟩ := bnd hr
  refine k_V (ci := 9) (o := h a0 0) (T := TX9) (as := [(14, h a0 1)]) (rest := [(15, a0)]) (X := (some (0, q9.1), q9.2)) (oX9_takeTable hg9) gX9_takeTable rfl (by decide) rfl (wsl_18 _ (List.mem_of_getElem? (i := 10) rfl)) rfl dX5_takeCols_9 rfl ?_
  obtain ⟨h12, hg12, hr⟩ := bnd hr
  refine r_put' 5 3 (t := 0) (ref := "FollowingRefs$SchemaReader") hg12 rfl tyX5 tyX5_ok nmX5 rfl (by decide) rfl (by decide) inlX5 (wsl_18 _ (List.mem_of_getElem? (i := 3) rfl)) rfl rfl (by decide +kernel) (by decide) rfl (Or.inl ⟨rfl, rfl⟩) dX5_takeCols_12 ?_
  refine r_aload_n dX5_takeCols_15 rfl 0 rfl (nl rfl) ?_
  refine r_aload_n dX5_takeCols_16 rfl 0 rfl (nl rfl) ?_
  refine r_get 5 3 (o := a0) (w := (0, h12 a0 3)) (T := TX5) (ref := "FollowingRefs$SchemaReader") rfl (by decide) rfl (by decide) inlX5 (wsl_18 _ (List.mem_of_getElem? (i := 3) rfl)) rfl dX5_takeCols_17 rfl ?_
  refine r_iconst dX5_takeCols_20 (by decide) ?_
  refine r_icmp_ne dX5_takeCols_21 (tgt := 28) (by decide) (fun hc => ?_) (fun hc => ?_)
  · have hr := ifn hr hc
    refine r_aload_n dX5_takeCols_28 rfl 0 rfl (nl rfl) ?_
    refine r_get 5 0 (o := a0) (w := (19, h12 a0 0)) (T := TX5) (ref := "FollowingRefs$SchemaReader") rfl (by decide) rfl (by decide) inlX5 (wsl_5 _ (List.mem_of_getElem? (i := 0) rfl)) rfl dX5_takeCols_29 rfl ?_
    refine r_aload_n dX5_takeCols_32 rfl 0 rfl (nl rfl) ?_
    refine r_get 5 1 (o := a0) (w := (14, h12 a0 1)) (T := TX5) (ref := "FollowingRefs$SchemaReader") rfl (by decide) rfl (by decide) inlX5 (wsl_4 _ (List.mem_of_getElem? (i := 23) rfl)) rfl dX5_takeCols_33 rfl ?_
    refine r_aload_n dX5_takeCols_36 rfl 0 rfl (nl rfl) ?_
    refine r_get 5 3 (o := a0) (w := (0, h12 a0 3)) (T := TX5) (ref := "FollowingRefs$SchemaReader") rfl (by decide) rfl (by decide) inlX5 (wsl_18 _ (List.mem_of_getElem? (i := 3) rfl)) rfl dX5_takeCols_37 rfl ?_
    refine r_iconst dX5_takeCols_40 (by decide) ?_
    obtain ⟨q41, hg41, hr⟩ := bnd hr
    refine k_V (ci := 9) (o := h12 a0 0) (T := TX9) (as := [(14, h12 a0 1), (0, h12 a0 3), (0, -1)]) (rest := [(15, a0)]) (X := (some (0, q41.1), q41.2)) (oX9_takeCol hg41) gX9_takeCol rfl (by decide) rfl (wsl_18 _ (List.mem_of_getElem? (i := 16) rfl)) rfl dX5_takeCols_41 rfl ?_
    exact oX5_takeCols_b44 (K := K) (fun r z => k0 r z) hr hk
  · have hr := ifp hr hc
    refine r_iconst dX5_takeCols_24 (by decide) ?_
    refine r_goto dX5_takeCols_25 (tgt := 44) (by decide) ?_
    exact oX5_takeCols_b44 (K := K) (fun r z => k0 r z) hr hk
end M_X5_takeCols
theorem oX5_takeCols {l : Launch} {D : va_G} {G : gG} {h : hH} {a0 : Int} {r : Int × hH} (hr : fX5_takeCols h a0 = some r) : Ctr l D G true yX5_takeCols M_X5_takeCols [(15, a0)] h (some (2, r.1), r.2) :=
  Ctr_of (by decide) rfl (fun z => by cases z) (nl rfl) (fun {p e R s m args below meth c A H0} => by
    exact oX5_takeCols_b0 (K := fun z9 => z9 = r) (fun r9 z => by rw [z]) hr rfl)
/-! X5_readKey -/
theorem dX5_readKey_0 : decode cX5_readKey 0 = .ok (.aload_n 0, 1) := by decide +kernel
theorem dX5_readKey_1 : decode cX5_readKey 1 = .ok (.getfield 18, 3) := by decide +kernel
theorem dX5_readKey_4 : decode cX5_readKey 4 = .ok (.invokevirtual 79, 3) := by decide +kernel
theorem dX5_readKey_7 : decode cX5_readKey 7 = .ok (.aload_n 0, 1) := by decide +kernel
theorem dX5_readKey_8 : decode cX5_readKey 8 = .ok (.invokevirtual 123, 3) := by decide +kernel
theorem dX5_readKey_11 : decode cX5_readKey 11 = .ok (.ifCond .ne 5, 3) := by decide +kernel
theorem dX5_readKey_14 : decode cX5_readKey 14 = .ok (.iconst 0, 1) := by decide +kernel
theorem dX5_readKey_15 : decode cX5_readKey 15 = .ok (.ireturn, 1) := by decide +kernel
theorem dX5_readKey_16 : decode cX5_readKey 16 = .ok (.aload_n 0, 1) := by decide +kernel
theorem dX5_readKey_17 : decode cX5_readKey 17 = .ok (.getfield 12, 3) := by decide +kernel
theorem dX5_readKey_20 : decode cX5_readKey 20 = .ok (.aload_n 0, 1) := by decide +kernel
theorem dX5_readKey_21 : decode cX5_readKey 21 = .ok (.getfield 110, 3) := by decide +kernel
theorem dX5_readKey_24 : decode cX5_readKey 24 = .ok (.aload_n 0, 1) := by decide +kernel
theorem dX5_readKey_25 : decode cX5_readKey 25 = .ok (.getfield 117, 3) := by decide +kernel
theorem dX5_readKey_28 : decode cX5_readKey 28 = .ok (.aload_n 0, 1) := by decide +kernel
theorem dX5_readKey_29 : decode cX5_readKey 29 = .ok (.getfield 120, 3) := by decide +kernel
theorem dX5_readKey_32 : decode cX5_readKey 32 = .ok (.invokevirtual 126, 3) := by decide +kernel
theorem dX5_readKey_35 : decode cX5_readKey 35 = .ok (.iconst 1, 1) := by decide +kernel
theorem dX5_readKey_36 : decode cX5_readKey 36 = .ok (.ireturn, 1) := by decide +kernel
abbrev M_X5_readKey : mM := (cX5_readKey, 1, RX5, some .boolean, false, 4, 94, 0, 0)
theorem gX5_readKey : cI yX5_readKey M_X5_readKey 0 := ⟨(wsl_18 _ (List.mem_of_getElem? (i := 0) rfl)), (wsl_18 _ (List.mem_of_getElem? (i := 1) rfl)), (wsl_2 _ (List.mem_of_getElem? (i := 7) rfl)), (wsl_18 _ (List.mem_of_getElem? (i := 2) rfl)), by decide +kernel⟩
noncomputable def fX5_readKey (h : hH) (a0 : Int) : Option (Int × hH) :=
  (fX9_step h (h a0 0)).bind fun h4 =>
  (fX5_takeCols h4 a0).bind fun q8 =>
  if q8.1 = 0 then
    some (0, q8.2)
  else
    (fX4_addKey q8.2 (q8.2 a0 1) (q8.2 a0 3) (q8.2 a0 4) (q8.2 a0 5)).bind fun h32 =>
    some (1, h32)
section M_X5_readKey
variable {p : Program} {l : Launch} {e : Env} {R : Room} {s : State} {m : MethodId} {args : Array Value} {below : List Frame} {meth : Method} {c : Code} {D : va_G} {G : gG} {A : Nat → Prop} {H0 : Heap} {n0 : Int} {x : Option vV × hH} {h : hH}
set_option maxRecDepth 100000 in
set_option maxHeartbeats 4000000 in
theorem oX5_readKey_b0 {a0 : Int} {K : Int × hH → Prop} (k0 : ∀ r, K (r) → x = (some (2, r.1), r.2)) {r : Int × hH} (hr : fX5_readKey h a0 = some r) (hk : K r) : Wq p l e R s m args below meth c D G A H0 true n0 M_X5_readKey x 0 0 0 [(0, (15, a0))] [] h := by
  unfold fX5_readKey at hr
  refine r_aload_n dX5_readKey_0 rfl 0 rfl (nl rfl) ?_
  refine r_get 5 0 (o := a0) (w := (19, h a0 0)) (T := TX5) (ref := "FollowingRefs$SchemaReader") rfl (by decide) rfl (by decide) inlX5 (wsl_5 _ (List.mem_of_getElem? (i := 0) rfl)) rfl dX5_readKey_1 rfl ?_
  obtain ⟨h4, hg4, hr⟩ := bnd hr
  refine k_V (ci := 9) (o := h a0 0) (T := TX9) (as := []) (rest := []) (X := (none, h4)) (oX9_step hg4) gX9_step rfl (by decide) rfl (wsl_16 _ (List.mem_of_getElem? (i := 19) rfl)) rfl dX5_readKey_4 rfl ?_
  refine r_aload_n dX5_readKey_7 rfl 0 rfl (nl rfl) ?_
  obtain ⟨q8, hg8, hr⟩ := bnd hr
  refine k_V (ci := 5) (o := a0) (T := TX5) (as := []) (rest := []) (X := (some (2, q8.1), q8.2)) (oX5_takeCols hg8) gX5_takeCols rfl (by decide) rfl (wsl_18 _ (List.mem_of_getElem? (i := 6) rfl)) rfl dX5_readKey_8 rfl ?_
  refine r_scast 0 (v := (2, q8.1)) (w := (0, q8.1)) rfl zc hTz (st' := [(0, q8.1)]) rfl ?_
  refine r_if_ne dX5_readKey_11 (tgt := 16) (by decide) (fun hc => ?_) (fun hc => ?_)
  · have hr := ifn hr hc
    refine r_aload_n dX5_readKey_16 rfl 0 rfl (nl rfl) ?_
    refine r_get 5 1 (o := a0) (w := (14, q8.2 a0 1)) (T := TX5) (ref := "FollowingRefs$SchemaReader") rfl (by decide) rfl (by decide) inlX5 (wsl_4 _ (List.mem_of_getElem? (i := 23) rfl)) rfl dX5_readKey_17 rfl ?_
    refine r_aload_n dX5_readKey_20 rfl 0 rfl (nl rfl) ?_
    refine r_get 5 3 (o := a0) (w := (0, q8.2 a0 3)) (T := TX5) (ref := "FollowingRefs$SchemaReader") rfl (by decide) rfl (by decide) inlX5 (wsl_18 _ (List.mem_of_getElem? (i := 3) rfl)) rfl dX5_readKey_21 rfl ?_
    refine r_aload_n dX5_readKey_24 rfl 0 rfl (nl rfl) ?_
    refine r_get 5 4 (o := a0) (w := (0, q8.2 a0 4)) (T := TX5) (ref := "FollowingRefs$SchemaReader") rfl (by decide) rfl (by decide) inlX5 (wsl_18 _ (List.mem_of_getElem? (i := 4) rfl)) rfl dX5_readKey_25 rfl ?_
    refine r_aload_n dX5_readKey_28 rfl 0 rfl (nl rfl) ?_
    refine r_get 5 5 (o := a0) (w := (0, q8.2 a0 5)) (T := TX5) (ref := "FollowingRefs$SchemaReader") rfl (by decide) rfl (by decide) inlX5 (wsl_18 _ (List.mem_of_getElem? (i := 5) rfl)) rfl dX5_readKey_29 rfl ?_
    obtain ⟨h32, hg32, hr⟩ := bnd hr
    refine k_V (ci := 4) (o := q8.2 a0 1) (T := TX4) (as := [(0, q8.2 a0 3), (0, q8.2 a0 4), (0, q8.2 a0 5)]) (rest := []) (X := (none, h32)) (oX4_addKey hg32) gX4_addKey rfl (by decide) rfl (wsl_19 _ (List.mem_of_getElem? (i := 1) rfl)) rfl dX5_readKey_32 rfl ?_
    refine r_iconst dX5_readKey_35 (by decide) ?_
    refine r_scast 0 (v := (0, 1)) (w := (2, 1)) rfl cz (fun _ => Or.inr rfl) (st' := [(2, 1)]) rfl ?_
    obtain rfl := Option.some.inj hr
    exact r_ret dX5_readKey_36 rfl (Or.inr ⟨rfl, rfl⟩) (k0 _ hk) ⟨rfl, rfl⟩
  · have hr := ifp hr hc
    refine r_iconst dX5_readKey_14 (by decide) ?_
    refine r_scast 0 (v := (0, 0)) (w := (2, 0)) rfl cz (fun _ => Or.inl rfl) (st' := [(2, 0)]) rfl ?_
    obtain rfl := Option.some.inj hr
    exact r_ret dX5_readKey_15 rfl (Or.inr ⟨rfl, rfl⟩) (k0 _ hk) ⟨rfl, rfl⟩
end M_X5_readKey
theorem oX5_readKey {l : Launch} {D : va_G} {G : gG} {h : hH} {a0 : Int} {r : Int × hH} (hr : fX5_readKey h a0 = some r) : Ctr l D G true yX5_readKey M_X5_readKey [(15, a0)] h (some (2, r.1), r.2) :=
  Ctr_of (by decide) rfl (fun z => by cases z) (nl rfl) (fun {p e R s m args below meth c A H0} => by
    exact oX5_readKey_b0 (K := fun z9 => z9 = r) (fun r9 z => by rw [z]) hr rfl)
/-! X5_takeKey -/
theorem dX5_takeKey_0 : decode cX5_takeKey 0 = .ok (.iload_n 2, 1) := by decide +kernel
theorem dX5_takeKey_1 : decode cX5_takeKey 1 = .ok (.ifCond .eq 19, 3) := by decide +kernel
theorem dX5_takeKey_4 : decode cX5_takeKey 4 = .ok (.aload_n 0, 1) := by decide +kernel
theorem dX5_takeKey_5 : decode cX5_takeKey 5 = .ok (.getfield 18, 3) := by decide +kernel
theorem dX5_takeKey_8 : decode cX5_takeKey 8 = .ok (.aload_n 0, 1) := by decide +kernel
theorem dX5_takeKey_9 : decode cX5_takeKey 9 = .ok (.getfield 12, 3) := by decide +kernel
theorem dX5_takeKey_12 : decode cX5_takeKey 12 = .ok (.iload_n 1, 1) := by decide +kernel
theorem dX5_takeKey_13 : decode cX5_takeKey 13 = .ok (.iconst (-1), 1) := by decide +kernel
theorem dX5_takeKey_14 : decode cX5_takeKey 14 = .ok (.invokevirtual 113, 3) := by decide +kernel
theorem dX5_takeKey_17 : decode cX5_takeKey 17 = .ok (.goto 16, 3) := by decide +kernel
theorem dX5_takeKey_20 : decode cX5_takeKey 20 = .ok (.aload_n 0, 1) := by decide +kernel
theorem dX5_takeKey_21 : decode cX5_takeKey 21 = .ok (.getfield 18, 3) := by decide +kernel
theorem dX5_takeKey_24 : decode cX5_takeKey 24 = .ok (.aload_n 0, 1) := by decide +kernel
theorem dX5_takeKey_25 : decode cX5_takeKey 25 = .ok (.getfield 12, 3) := by decide +kernel
theorem dX5_takeKey_28 : decode cX5_takeKey 28 = .ok (.iload_n 1, 1) := by decide +kernel
theorem dX5_takeKey_29 : decode cX5_takeKey 29 = .ok (.iconst (-1), 1) := by decide +kernel
theorem dX5_takeKey_30 : decode cX5_takeKey 30 = .ok (.invokevirtual 149, 3) := by decide +kernel
theorem dX5_takeKey_33 : decode cX5_takeKey 33 = .ok (.istore_n 3, 1) := by decide +kernel
theorem dX5_takeKey_34 : decode cX5_takeKey 34 = .ok (.iload_n 3, 1) := by decide +kernel
theorem dX5_takeKey_35 : decode cX5_takeKey 35 = .ok (.iconst (-1), 1) := by decide +kernel
theorem dX5_takeKey_36 : decode cX5_takeKey 36 = .ok (.if_icmp .ne 5, 3) := by decide +kernel
theorem dX5_takeKey_39 : decode cX5_takeKey 39 = .ok (.iconst (-1), 1) := by decide +kernel
theorem dX5_takeKey_40 : decode cX5_takeKey 40 = .ok (.ireturn, 1) := by decide +kernel
theorem dX5_takeKey_41 : decode cX5_takeKey 41 = .ok (.iload_n 2, 1) := by decide +kernel
theorem dX5_takeKey_42 : decode cX5_takeKey 42 = .ok (.ifCond .eq 19, 3) := by decide +kernel
theorem dX5_takeKey_45 : decode cX5_takeKey 45 = .ok (.aload_n 0, 1) := by decide +kernel
theorem dX5_takeKey_46 : decode cX5_takeKey 46 = .ok (.getfield 18, 3) := by decide +kernel
theorem dX5_takeKey_49 : decode cX5_takeKey 49 = .ok (.aload_n 0, 1) := by decide +kernel
theorem dX5_takeKey_50 : decode cX5_takeKey 50 = .ok (.getfield 12, 3) := by decide +kernel
theorem dX5_takeKey_53 : decode cX5_takeKey 53 = .ok (.iload_n 1, 1) := by decide +kernel
theorem dX5_takeKey_54 : decode cX5_takeKey 54 = .ok (.iload_n 3, 1) := by decide +kernel
theorem dX5_takeKey_55 : decode cX5_takeKey 55 = .ok (.invokevirtual 149, 3) := by decide +kernel
theorem dX5_takeKey_58 : decode cX5_takeKey 58 = .ok (.goto 4, 3) := by decide +kernel
theorem dX5_takeKey_61 : decode cX5_takeKey 61 = .ok (.iconst (-1), 1) := by decide +kernel
theorem dX5_takeKey_62 : decode cX5_takeKey 62 = .ok (.istore 4, 2) := by decide +kernel
theorem dX5_takeKey_64 : decode cX5_takeKey 64 = .ok (.iload_n 2, 1) := by decide +kernel
theorem dX5_takeKey_65 : decode cX5_takeKey 65 = .ok (.ifCond .eq 11, 3) := by decide +kernel
theorem dX5_takeKey_68 : decode cX5_takeKey 68 = .ok (.iload 4, 2) := by decide +kernel
theorem dX5_takeKey_70 : decode cX5_takeKey 70 = .ok (.iconst (-1), 1) := by decide +kernel
theorem dX5_takeKey_71 : decode cX5_takeKey 71 = .ok (.if_icmp .ne 5, 3) := by decide +kernel
theorem dX5_takeKey_74 : decode cX5_takeKey 74 = .ok (.iconst (-1), 1) := by decide +kernel
theorem dX5_takeKey_75 : decode cX5_takeKey 75 = .ok (.ireturn, 1) := by decide +kernel
theorem dX5_takeKey_76 : decode cX5_takeKey 76 = .ok (.aload_n 0, 1) := by decide +kernel
theorem dX5_takeKey_77 : decode cX5_takeKey 77 = .ok (.getfield 12, 3) := by decide +kernel
theorem dX5_takeKey_80 : decode cX5_takeKey 80 = .ok (.iload_n 1, 1) := by decide +kernel
theorem dX5_takeKey_81 : decode cX5_takeKey 81 = .ok (.iload_n 3, 1) := by decide +kernel
theorem dX5_takeKey_82 : decode cX5_takeKey 82 = .ok (.iload 4, 2) := by decide +kernel
theorem dX5_takeKey_84 : decode cX5_takeKey 84 = .ok (.invokevirtual 152, 3) := by decide +kernel
theorem dX5_takeKey_87 : decode cX5_takeKey 87 = .ok (.istore 5, 2) := by decide +kernel
theorem dX5_takeKey_89 : decode cX5_takeKey 89 = .ok (.iload 5, 2) := by decide +kernel
theorem dX5_takeKey_91 : decode cX5_takeKey 91 = .ok (.iconst (-1), 1) := by decide +kernel
theorem dX5_takeKey_92 : decode cX5_takeKey 92 = .ok (.if_icmp .ne 14, 3) := by decide +kernel
theorem dX5_takeKey_95 : decode cX5_takeKey 95 = .ok (.aload_n 0, 1) := by decide +kernel
theorem dX5_takeKey_96 : decode cX5_takeKey 96 = .ok (.getfield 18, 3) := by decide +kernel
theorem dX5_takeKey_99 : decode cX5_takeKey 99 = .ok (.iconst 3, 1) := by decide +kernel
theorem dX5_takeKey_100 : decode cX5_takeKey 100 = .ok (.invokevirtual 42, 3) := by decide +kernel
theorem dX5_takeKey_103 : decode cX5_takeKey 103 = .ok (.pop, 1) := by decide +kernel
theorem dX5_takeKey_104 : decode cX5_takeKey 104 = .ok (.iconst (-1), 1) := by decide +kernel
theorem dX5_takeKey_105 : decode cX5_takeKey 105 = .ok (.ireturn, 1) := by decide +kernel
theorem dX5_takeKey_106 : decode cX5_takeKey 106 = .ok (.aload_n 0, 1) := by decide +kernel
theorem dX5_takeKey_107 : decode cX5_takeKey 107 = .ok (.getfield 18, 3) := by decide +kernel
theorem dX5_takeKey_110 : decode cX5_takeKey 110 = .ok (.invokevirtual 79, 3) := by decide +kernel
theorem dX5_takeKey_113 : decode cX5_takeKey 113 = .ok (.iload 5, 2) := by decide +kernel
theorem dX5_takeKey_115 : decode cX5_takeKey 115 = .ok (.ireturn, 1) := by decide +kernel
abbrev M_X5_takeKey : mM := (cX5_takeKey, 6, RX5, some .int, false, 3, 74, 0, 0)
theorem gX5_takeKey : cI yX5_takeKey M_X5_takeKey 2 := ⟨(wsl_19 _ (List.mem_of_getElem? (i := 15) rfl)), (wsl_19 _ (List.mem_of_getElem? (i := 16) rfl)), (wsl_2 _ (List.mem_of_getElem? (i := 7) rfl)), (wsl_19 _ (List.mem_of_getElem? (i := 17) rfl)), by decide +kernel⟩
noncomputable def fX5_takeKey_b76 (h : hH) (a0 a1 l3 l4 : Int) : Option (Int × hH) :=
  (fX4_keyAlike h (h a0 1) a1 l3 l4).bind fun r84 =>
  if r84 = -1 then
    (fX9_fail h (h a0 0) 3).bind fun q100 =>
    some (-1, q100.2)
  else
    (fX9_step h (h a0 0)).bind fun h110 =>
    some (r84, h110)
noncomputable def fX5_takeKey_b62 (h : hH) (a0 a1 a2 l3 s0 : Int) : Option (Int × hH) :=
  if a2 = 0 then
    fX5_takeKey_b76 h a0 a1 l3 s0
  else
    if s0 = -1 then
      some (-1, h)
    else
      fX5_takeKey_b76 h a0 a1 l3 s0
noncomputable def fX5_takeKey_b33 (h : hH) (a0 a1 a2 s0 : Int) : Option (Int × hH) :=
  if s0 = -1 then
    some (-1, h)
  else
    if a2 = 0 then
      fX5_takeKey_b62 h a0 a1 a2 s0 (-1)
    else
      (fX9_colHere h (h a0 0) (h a0 1) a1 s0).bind fun q55 =>
      fX5_takeKey_b62 q55.2 a0 a1 a2 s0 q55.1
noncomputable def fX5_takeKey (h : hH) (a0 a1 a2 : Int) : Option (Int × hH) :=
  if a2 = 0 then
    (fX9_colHere h (h a0 0) (h a0 1) a1 (-1)).bind fun q30 =>
    fX5_takeKey_b33 q30.2 a0 a1 a2 q30.1
  else
    (fX9_takeCol h (h a0 0) (h a0 1) a1 (-1)).bind fun q14 =>
    fX5_takeKey_b33 q14.2 a0 a1 a2 q14.1
section M_X5_takeKey
variable {p : Program} {l : Launch} {e : Env} {R : Room} {s : State} {m : MethodId} {args : Array Value} {below : List Frame} {meth : Method} {c : Code} {D : va_G} {G : gG} {A : Nat → Prop} {H0 : Heap} {n0 : Int} {x : Option vV × hH} {h : hH}
set_option maxRecDepth 100000 in
set_option maxHeartbeats 4000000 in
theorem oX5_takeKey_b76 {a0 a1 l3 l4 : Int} {K : Int × hH → Prop} (k0 : ∀ r, K (r) → x = (some (0, r.1), r.2)) {r : Int × hH} (hr : fX5_takeKey_b76 h a0 a1 l3 l4 = some r) (hk : K r) : Wq p l e R s m args below meth c D G A H0 true n0 M_X5_takeKey x 0 0 76 [(0, (15, a0)), (1, (0, a1)), (3, (0, l3)), (4, (0, l4))] [] h := by
  unfold fX5_takeKey_b76 at hr
  refine r_aload_n dX5_takeKey_76 rfl 0 rfl (nl rfl) ?_
  refine r_get 5 1 (o := a0) (w := (14, h a0 1)) (T := TX5) (ref := "FollowingRefs$SchemaReader") rfl (by decide) rfl (by decide) inlX5 (wsl_4 _ (List.mem_of_getElem? (i := 23) rfl)) rfl dX5_takeKey_77 rfl ?_
  refine r_iload_n dX5_takeKey_80 rfl 1 rfl (Or.inl rfl) ?_
  refine r_iload_n dX5_takeKey_81 rfl 2 rfl (Or.inl rfl) ?_
  refine r_iload dX5_takeKey_82 3 rfl (Or.inl rfl) ?_
  obtain ⟨r84, hg84, hr⟩ := bnd hr
  refine k_V (ci := 4) (o := h a0 1) (T := TX4) (as := [(0, a1), (0, l3), (0, l4)]) (rest := []) (X := (some (0, r84), h)) (oX4_keyAlike hg84) gX4_keyAlike rfl (by decide) rfl (wsl_19 _ (List.mem_of_getElem? (i := 19) rfl)) rfl dX5_takeKey_84 rfl ?_
  refine r_istore dX5_takeKey_87 (Or.inl rfl) (by decide) (lv' := [(5, (0, r84)), (0, (15, a0)), (1, (0, a1)), (3, (0, l3)), (4, (0, l4))]) rfl ?_
  refine r_iload dX5_takeKey_89 0 rfl (Or.inl rfl) ?_
  refine r_iconst dX5_takeKey_91 (by decide) ?_
  refine r_icmp_ne dX5_takeKey_92 (tgt := 106) (by decide) (fun hc => ?_) (fun hc => ?_)
  · have hr := ifn hr hc
    refine r_aload_n dX5_takeKey_106 rfl 1 rfl (nl rfl) ?_
    refine r_get 5 0 (o := a0) (w := (19, h a0 0)) (T := TX5) (ref := "FollowingRefs$SchemaReader") rfl (by decide) rfl (by decide) inlX5 (wsl_5 _ (List.mem_of_getElem? (i := 0) rfl)) rfl dX5_takeKey_107 rfl ?_
    obtain ⟨h110, hg110, hr⟩ := bnd hr
    refine k_V (ci := 9) (o := h a0 0) (T := TX9) (as := []) (rest := []) (X := (none, h110)) (oX9_step hg110) gX9_step rfl (by decide) rfl (wsl_16 _ (List.mem_of_getElem? (i := 19) rfl)) rfl dX5_takeKey_110 rfl ?_
    refine r_iload dX5_takeKey_113 0 rfl (Or.inl rfl) ?_
    obtain rfl := Option.some.inj hr
    exact r_ret dX5_takeKey_115 rfl (Or.inl ⟨rfl, rfl⟩) (k0 _ hk) ⟨rfl, rfl⟩
  · have hr := ifp hr hc
    refine r_aload_n dX5_takeKey_95 rfl 1 rfl (nl rfl) ?_
    refine r_get 5 0 (o := a0) (w := (19, h a0 0)) (T := TX5) (ref := "FollowingRefs$SchemaReader") rfl (by decide) rfl (by decide) inlX5 (wsl_5 _ (List.mem_of_getElem? (i := 0) rfl)) rfl dX5_takeKey_96 rfl ?_
    refine r_iconst dX5_takeKey_99 (by decide) ?_
    obtain ⟨q100, hg100, hr⟩ := bnd hr
    refine k_V (ci := 9) (o := h a0 0) (T := TX9) (as := [(0, 3)]) (rest := []) (X := (some (2, q100.1), q100.2)) (oX9_fail hg100) gX9_fail rfl (by decide) rfl (wsl_16 _ (List.mem_of_getElem? (i := 10) rfl)) rfl dX5_takeKey_100 rfl ?_
    refine r_pop dX5_takeKey_103 (Nat.ne_of_beq_eq_false rfl) ?_
    refine r_iconst dX5_takeKey_104 (by decide) ?_
    obtain rfl := Option.some.inj hr
    exact r_ret dX5_takeKey_105 rfl (Or.inl ⟨rfl, rfl⟩) (k0 _ hk) ⟨rfl, rfl⟩
set_option maxRecDepth 100000 in
set_option maxHeartbeats 4000000 in
theorem oX5_takeKey_b62 {a0 a1 a2 l3 s0 : Int} {K : Int × hH → Prop} (k0 : ∀ r, K (r) → x = (some (0, r.1), r.2)) {r : Int × hH} (hr : fX5_takeKey_b62 h a0 a1 a2 l3 s0 = some r) (hk : K r) : Wq p l e R s m args below meth c D G A H0 true n0 M_X5_takeKey x 0 0 62 [(0, (15, a0)), (1, (0, a1)), (2, (2, a2)), (3, (0, l3))] [(0, s0)] h := by
  unfold fX5_takeKey_b62 at hr
  refine r_istore dX5_takeKey_62 (Or.inl rfl) (by decide) (lv' := [(4, (0, s0)), (0, (15, a0)), (1, (0, a1)), (2, (2, a2)), (3, (0, l3))]) rfl ?_
  refine r_iload_n dX5_takeKey_64 rfl 3 rfl (Or.inr rfl) ?_
  refine r_scast 0 (v := (2, a2)) (w := (0, a2)) rfl zc hTz (st' := [(0, a2)]) rfl ?_
  refine r_if_eq dX5_takeKey_65 (tgt := 76) (by decide) (fun hc => ?_) (fun hc => ?_)
  · have hr := ifp hr hc
    refine r_sub [1, 2, 4, 0] (lv' := [(0, (15, a0)), (1, (0, a1)), (3, (0, l3)), (4, (0, s0))]) rfl ?_
    exact oX5_takeKey_b76 (K := K) (fun r z => k0 r z) hr hk
  · have hr := ifn hr hc
    refine r_iload dX5_takeKey_68 0 rfl (Or.inl rfl) ?_
    refine r_iconst dX5_takeKey_70 (by decide) ?_
    refine r_icmp_ne dX5_takeKey_71 (tgt := 76) (by decide) (fun hc => ?_) (fun hc => ?_)
    · have hr := ifn hr hc
      refine r_sub [1, 2, 4, 0] (lv' := [(0, (15, a0)), (1, (0, a1)), (3, (0, l3)), (4, (0, s0))]) rfl ?_
      exact oX5_takeKey_b76 (K := K) (fun r z => k0 r z) hr hk
    · have hr := ifp hr hc
      refine r_iconst dX5_takeKey_74 (by decide) ?_
      obtain rfl := Option.some.inj hr
      exact r_ret dX5_takeKey_75 rfl (Or.inl ⟨rfl, rfl⟩) (k0 _ hk) ⟨rfl, rfl⟩
set_option maxRecDepth 100000 in
set_option maxHeartbeats 4000000 in
theorem oX5_takeKey_b33 {a0 a1 a2 s0 : Int} {K : Int × hH → Prop} (k0 : ∀ r, K (r) → x = (some (0, r.1), r.2)) {r : Int × hH} (hr : fX5_takeKey_b33 h a0 a1 a2 s0 = some r) (hk : K r) : Wq p l e R s m args below meth c D G A H0 true n0 M_X5_takeKey x 0 0 33 [(0, (15, a0)), (1, (0, a1)), (2, (2, a2))] [(0, s0)] h := by
  unfold fX5_takeKey_b33 at hr
  refine r_istore_n dX5_takeKey_33 rfl (Or.inl rfl) (by decide) (lv' := [(3, (0, s0)), (0, (15, a0)), (1, (0, a1)), (2, (2, a2))]) rfl ?_
  refine r_iload_n dX5_takeKey_34 rfl 0 rfl (Or.inl rfl) ?_
  refine r_iconst dX5_takeKey_35 (by decide) ?_
  refine r_icmp_ne dX5_takeKey_36 (tgt := 41) (by decide) (fun hc => ?_) (fun hc => ?_)
  · have hr := ifn hr hc
    refine r_iload_n dX5_takeKey_41 rfl 3 rfl (Or.inr rfl) ?_
    refine r_scast 0 (v := (2, a2)) (w := (0, a2)) rfl zc hTz (st' := [(0, a2)]) rfl ?_
    refine r_if_eq dX5_takeKey_42 (tgt := 61) (by decide) (fun hc => ?_) (fun hc => ?_)
    · have hr := ifp hr hc
      refine r_iconst dX5_takeKey_61 (by decide) ?_
      refine r_sub [1, 2, 3, 0] (lv' := [(0, (15, a0)), (1, (0, a1)), (2, (2, a2)), (3, (0, s0))]) rfl ?_
      exact oX5_takeKey_b62 (K := K) (fun r z => k0 r z) hr hk
    · have hr := ifn hr hc
      refine r_aload_n dX5_takeKey_45 rfl 1 rfl (nl rfl) ?_
      refine r_get 5 0 (o := a0) (w := (19, h a0 0)) (T := TX5) (ref := "FollowingRefs$SchemaReader") rfl (by decide) rfl (by decide) inlX5 (wsl_5 _ (List.mem_of_getElem? (i := 0) rfl)) rfl dX5_takeKey_46 rfl ?_
      refine r_aload_n dX5_takeKey_49 rfl 1 rfl (nl rfl) ?_
      refine r_get 5 1 (o := a0) (w := (14, h a0 1)) (T := TX5) (ref := "FollowingRefs$SchemaReader") rfl (by decide) rfl (by decide) inlX5 (wsl_4 _ (List.mem_of_getElem? (i := 23) rfl)) rfl dX5_takeKey_50 rfl ?_
      refine r_iload_n dX5_takeKey_53 rfl 2 rfl (Or.inl rfl) ?_
      refine r_iload_n dX5_takeKey_54 rfl 0 rfl (Or.inl rfl) ?_
      obtain ⟨q55, hg55, hr⟩ := bnd hr
      refine k_V (ci := 9) (o := h a0 0) (T := TX9) (as := [(14, h a0 1), (0, a1), (0, s0)]) (rest := []) (X := (some (0, q55.1), q55.2)) (oX9_colHere hg55) gX9_colHere rfl (by decide) rfl (wsl_19 _ (List.mem_of_getElem? (i := 18) rfl)) rfl dX5_takeKey_55 rfl ?_
      refine r_goto dX5_takeKey_58 (tgt := 62) (by decide) ?_
      refine r_sub [1, 2, 3, 0] (lv' := [(0, (15, a0)), (1, (0, a1)), (2, (2, a2)), (3, (0, s0))]) rfl ?_
      exact oX5_takeKey_b62 (K := K) (fun r z => k0 r z) hr hk
  · have hr := ifp hr hc
    refine r_iconst dX5_takeKey_39 (by decide) ?_
    obtain rfl := Option.some.inj hr
    exact r_ret dX5_takeKey_40 rfl (Or.inl ⟨rfl, rfl⟩) (k0 _ hk) ⟨rfl, rfl⟩
set_option maxRecDepth 100000 in
set_option maxHeartbeats 4000000 in
theorem oX5_takeKey_b0 {a0 a1 a2 : Int} {K : Int × hH → Prop} (k0 : ∀ r, K (r) → x = (some (0, r.1), r.2)) {r : Int × hH} (hr : fX5_takeKey h a0 a1 a2 = some r) (hk : K r) : Wq p l e R s m args below meth c D G A H0 true n0 M_X5_takeKey x 0 0 0 [(0, (15, a0)), (1, (0, a1)), (2, (2, a2))] [] h := by
  unfold fX5_takeKey at hr
  refine r_iload_n dX5_takeKey_0 rfl 2 rfl (Or.inr rfl) ?_
  refine r_scast 0 (v := (2, a2)) (w := (0, a2)) rfl zc hTz (st' := [(0, a2)]) rfl ?_
  refine r_if_eq dX5_takeKey_1 (tgt := 20) (by decide) (fun hc => ?_) (fun hc => ?_)
  · have hr := ifp hr hc
    refine r_aload_n dX5_takeKey_20 rfl 0 rfl (nl rfl) ?_
    refine r_get 5 0 (o := a0) (w := (19, h a0 0)) (T := TX5) (ref := "FollowingRefs$SchemaReader") rfl (by decide) rfl (by decide) inlX5 (wsl_5 _ (List.mem_of_getElem? (i := 0) rfl)) rfl dX5_takeKey_21 rfl ?_
    refine r_aload_n dX5_takeKey_24 rfl 0 rfl (nl rfl) ?_
    refine r_get 5 1 (o := a0) (w := (14, h a0 1)) (T := TX5) (ref := "FollowingRefs$SchemaReader") rfl (by decide) rfl (by decide) inlX5 (wsl_4 _ (List.mem_of_getElem? (i := 23) rfl)) rfl dX5_takeKey_25 rfl ?_
    refine r_iload_n dX5_takeKey_28 rfl 1 rfl (Or.inl rfl) ?_
    refine r_iconst dX5_takeKey_29 (by decide) ?_
    obtain ⟨q30, hg30, hr⟩ := bnd hr
    refine k_V (ci := 9) (o := h a0 0) (T := TX9) (as := [(14, h a0 1), (0, a1), (0, -1)]) (rest := []) (X := (some (0, q30.1), q30.2)) (oX9_colHere hg30) gX9_colHere rfl (by decide) rfl (wsl_19 _ (List.mem_of_getElem? (i := 18) rfl)) rfl dX5_takeKey_30 rfl ?_
    exact oX5_takeKey_b33 (K := K) (fun r z => k0 r z) hr hk
  · have hr := ifn hr hc
    refine r_aload_n dX5_takeKey_4 rfl 0 rfl (nl rfl) ?_
    refine r_get 5 0 (o := a0) (w := (19, h a0 0)) (T := TX5) (ref := "FollowingRefs$SchemaReader") rfl (by decide) rfl (by decide) inlX5 (wsl_5 _ (List.mem_of_getElem? (i := 0) rfl)) rfl dX5_takeKey_5 rfl ?_
    refine r_aload_n dX5_takeKey_8 rfl 0 rfl (nl rfl) ?_
    refine r_get 5 1 (o := a0) (w := (14, h a0 1)) (T := TX5) (ref := "FollowingRefs$SchemaReader") rfl (by decide) rfl (by decide) inlX5 (wsl_4 _ (List.mem_of_getElem? (i := 23) rfl)) rfl dX5_takeKey_9 rfl ?_
    refine r_iload_n dX5_takeKey_12 rfl 1 rfl (Or.inl rfl) ?_
    refine r_iconst dX5_takeKey_13 (by decide) ?_
    obtain ⟨q14, hg14, hr⟩ := bnd hr
    refine k_V (ci := 9) (o := h a0 0) (T := TX9) (as := [(14, h a0 1), (0, a1), (0, -1)]) (rest := []) (X := (some (0, q14.1), q14.2)) (oX9_takeCol hg14) gX9_takeCol rfl (by decide) rfl (wsl_18 _ (List.mem_of_getElem? (i := 16) rfl)) rfl dX5_takeKey_14 rfl ?_
    refine r_goto dX5_takeKey_17 (tgt := 33) (by decide) ?_
    exact oX5_takeKey_b33 (K := K) (fun r z => k0 r z) hr hk
end M_X5_takeKey
theorem oX5_takeKey {l : Launch} {D : va_G} {G : gG} {h : hH} {a0 a1 a2 : Int} {r : Int × hH} (hr : fX5_takeKey h a0 a1 a2 = some r) : Ctr l D G true yX5_takeKey M_X5_takeKey [(15, a0), (0, a1), (2, a2)] h (some (0, r.1), r.2) :=
  Ctr_of (by decide) rfl (fun z => by cases z) (nl rfl) (fun {p e R s m args below meth c A H0} => by
    exact oX5_takeKey_b0 (K := fun z9 => z9 = r) (fun r9 z => by rw [z]) hr rfl)
/-! X5_takeOn -/
theorem dX5_takeOn_0 : decode cX5_takeOn 0 = .ok (.aload_n 0, 1) := by decide +kernel
theorem dX5_takeOn_1 : decode cX5_takeOn 1 = .ok (.getfield 18, 3) := by decide +kernel
theorem dX5_takeOn_4 : decode cX5_takeOn 4 = .ok (.getfield 35, 3) := by decide +kernel
theorem dX5_takeOn_7 : decode cX5_takeOn 7 = .ok (.istore_n 1, 1) := by decide +kernel
theorem dX5_takeOn_8 : decode cX5_takeOn 8 = .ok (.iload_n 1, 1) := by decide +kernel
theorem dX5_takeOn_9 : decode cX5_takeOn 9 = .ok (.sipush 132, 3) := by decide +kernel
theorem dX5_takeOn_12 : decode cX5_takeOn 12 = .ok (.if_icmp .lt 10, 3) := by decide +kernel
theorem dX5_takeOn_15 : decode cX5_takeOn 15 = .ok (.iload_n 1, 1) := by decide +kernel
theorem dX5_takeOn_16 : decode cX5_takeOn 16 = .ok (.sipush 135, 3) := by decide +kernel
theorem dX5_takeOn_19 : decode cX5_takeOn 19 = .ok (.if_icmp .le 14, 3) := by decide +kernel
theorem dX5_takeOn_22 : decode cX5_takeOn 22 = .ok (.aload_n 0, 1) := by decide +kernel
theorem dX5_takeOn_23 : decode cX5_takeOn 23 = .ok (.getfield 18, 3) := by decide +kernel
theorem dX5_takeOn_26 : decode cX5_takeOn 26 = .ok (.iconst 1, 1) := by decide +kernel
theorem dX5_takeOn_27 : decode cX5_takeOn 27 = .ok (.invokevirtual 42, 3) := by decide +kernel
theorem dX5_takeOn_30 : decode cX5_takeOn 30 = .ok (.pop, 1) := by decide +kernel
theorem dX5_takeOn_31 : decode cX5_takeOn 31 = .ok (.iconst (-1), 1) := by decide +kernel
theorem dX5_takeOn_32 : decode cX5_takeOn 32 = .ok (.ireturn, 1) := by decide +kernel
theorem dX5_takeOn_33 : decode cX5_takeOn 33 = .ok (.aload_n 0, 1) := by decide +kernel
theorem dX5_takeOn_34 : decode cX5_takeOn 34 = .ok (.getfield 18, 3) := by decide +kernel
theorem dX5_takeOn_37 : decode cX5_takeOn 37 = .ok (.invokevirtual 79, 3) := by decide +kernel
theorem dX5_takeOn_40 : decode cX5_takeOn 40 = .ok (.iload_n 1, 1) := by decide +kernel
theorem dX5_takeOn_41 : decode cX5_takeOn 41 = .ok (.sipush 132, 3) := by decide +kernel
theorem dX5_takeOn_44 : decode cX5_takeOn 44 = .ok (.isub, 1) := by decide +kernel
theorem dX5_takeOn_45 : decode cX5_takeOn 45 = .ok (.ireturn, 1) := by decide +kernel
abbrev M_X5_takeOn : mM := (cX5_takeOn, 2, RX5, some .int, false, 1, 22, 0, 0)
theorem gX5_takeOn : cI yX5_takeOn M_X5_takeOn 0 := ⟨(wsl_20 _ (List.mem_of_getElem? (i := 6) rfl)), (wsl_20 _ (List.mem_of_getElem? (i := 7) rfl)), (wsl_2 _ (List.mem_of_getElem? (i := 7) rfl)), (wsl_20 _ (List.mem_of_getElem? (i := 8) rfl)), by decide +kernel⟩
noncomputable def fX5_takeOn_b22 (h : hH) (a0 : Int) : Option (Int × hH) :=
  (fX9_fail h (h a0 0) 1).bind fun q27 =>
  some (-1, q27.2)
noncomputable def fX5_takeOn (h : hH) (a0 : Int) : Option (Int × hH) :=
  if h (h a0 0) 5 < 132 then
    fX5_takeOn_b22 h a0
  else
    if 135 < h (h a0 0) 5 then
      fX5_takeOn_b22 h a0
    else
      (fX9_step h (h a0 0)).bind fun h37 =>
      some (w32 ((h (h a0 0) 5) - 132), h37)
section M_X5_takeOn
variable {p : Program} {l : Launch} {e : Env} {R : Room} {s : State} {m : MethodId} {args : Array Value} {below : List Frame} {meth : Method} {c : Code} {D : va_G} {G : gG} {A : Nat → Prop} {H0 : Heap} {n0 : Int} {x : Option vV × hH} {h : hH}
set_option maxRecDepth 100000 in
set_option maxHeartbeats 4000000 in
theorem oX5_takeOn_b22 {a0 : Int} {K : Int × hH → Prop} (k0 : ∀ r, K (r) → x = (some (0, r.1), r.2)) {r : Int × hH} (hr : fX5_takeOn_b22 h a0 = some r) (hk : K r) : Wq p l e R s m args below meth c D G A H0 true n0 M_X5_takeOn x 0 0 22 [(0, (15, a0))] [] h := by
  unfold fX5_takeOn_b22 at hr
  refine r_aload_n dX5_takeOn_22 rfl 0 rfl (nl rfl) ?_
  refine r_get 5 0 (o := a0) (w := (19, h a0 0)) (T := TX5) (ref := "FollowingRefs$SchemaReader") rfl (by decide) rfl (by decide) inlX5 (wsl_5 _ (List.mem_of_getElem? (i := 0) rfl)) rfl dX5_takeOn_23 rfl ?_
  refine r_iconst dX5_takeOn_26 (by decide) ?_
  obtain ⟨q27, hg27, hr⟩ := bnd hr
  refine k_V (ci := 9) (o := h a0 0) (T := TX9) (as := [(0, 1)]) (rest := []) (X := (some (2, q27.1), q27.2)) (oX9_fail hg27) gX9_fail rfl (by decide) rfl (wsl_16 _ (List.mem_of_getElem? (i := 10) rfl)) rfl dX5_takeOn_27 rfl ?_
  refine r_pop dX5_takeOn_30 (Nat.ne_of_beq_eq_false rfl) ?_
  refine r_iconst dX5_takeOn_31 (by decide) ?_
  obtain rfl := Option.some.inj hr
  exact r_ret dX5_takeOn_32 rfl (Or.inl ⟨rfl, rfl⟩) (k0 _ hk) ⟨rfl, rfl⟩
set_option maxRecDepth 100000 in
set_option maxHeartbeats 4000000 in
theorem oX5_takeOn_b0 {a0 : Int} {K : Int × hH → Prop} (k0 : ∀ r, K (r) → x = (some (0, r.1), r.2)) {r : Int × hH} (hr : fX5_takeOn h a0 = some r) (hk : K r) : Wq p l e R s m args below meth c D G A H0 true n0 M_X5_takeOn x 0 0 0 [(0, (15, a0))] [] h := by
  unfold fX5_takeOn at hr
  refine r_aload_n dX5_takeOn_0 rfl 0 rfl (nl rfl) ?_
  refine r_get 5 0 (o := a0) (w := (19, h a0 0)) (T := TX5) (ref := "FollowingRefs$SchemaReader") rfl (by decide) rfl (by decide) inlX5 (wsl_5 _ (List.mem_of_getElem? (i := 0) rfl)) rfl dX5_takeOn_1 rfl ?_
  refine r_get 9 5 (o := h a0 0) (w := (0, h (h a0 0) 5)) (T := TX9) (ref := "FollowingRefs$Text") rfl (by decide) rfl (by decide) inlX9 (wsl_11 _ (List.mem_of_getElem? (i := 14) rfl)) rfl dX5_takeOn_4 rfl ?_
  refine r_istore_n dX5_takeOn_7 rfl (Or.inl rfl) (by decide) (lv' := [(1, (0, h (h a0 0) 5)), (0, (15, a0))]) rfl ?_
  refine r_iload_n dX5_takeOn_8 rfl 0 rfl (Or.inl rfl) ?_
  refine r_sipush dX5_takeOn_9 (by decide) (by decide) ?_
  refine r_icmp_lt dX5_takeOn_12 (tgt := 22) (by decide) (fun hc => ?_) (fun hc => ?_)
  · have hr := ifp hr hc
    refine r_sub [1] (lv' := [(0, (15, a0))]) rfl ?_
    exact oX5_takeOn_b22 (K := K) (fun r z => k0 r z) hr hk
  · have hr := ifn hr hc
    refine r_iload_n dX5_takeOn_15 rfl 0 rfl (Or.inl rfl) ?_
    refine r_sipush dX5_takeOn_16 (by decide) (by decide) ?_
    refine r_icmp_le dX5_takeOn_19 (tgt := 33) (by decide) (fun hc => ?_) (fun hc => ?_)
    · have hr := ifn hr hc
      refine r_aload_n dX5_takeOn_33 rfl 1 rfl (nl rfl) ?_
      refine r_get 5 0 (o := a0) (w := (19, h a0 0)) (T := TX5) (ref := "FollowingRefs$SchemaReader") rfl (by decide) rfl (by decide) inlX5 (wsl_5 _ (List.mem_of_getElem? (i := 0) rfl)) rfl dX5_takeOn_34 rfl ?_
      obtain ⟨h37, hg37, hr⟩ := bnd hr
      refine k_V (ci := 9) (o := h a0 0) (T := TX9) (as := []) (rest := []) (X := (none, h37)) (oX9_step hg37) gX9_step rfl (by decide) rfl (wsl_16 _ (List.mem_of_getElem? (i := 19) rfl)) rfl dX5_takeOn_37 rfl ?_
      refine r_iload_n dX5_takeOn_40 rfl 0 rfl (Or.inl rfl) ?_
      refine r_sipush dX5_takeOn_41 (by decide) (by decide) ?_
      refine r_isub dX5_takeOn_44 ?_
      obtain rfl := Option.some.inj hr
      exact r_ret dX5_takeOn_45 rfl (Or.inl ⟨rfl, rfl⟩) (k0 _ hk) ⟨rfl, rfl⟩
    · have hr := ifp hr hc
      refine r_sub [1] (lv' := [(0, (15, a0))]) rfl ?_
      exact oX5_takeOn_b22 (K := K) (fun r z => k0 r z) hr hk
end M_X5_takeOn
theorem oX5_takeOn {l : Launch} {D : va_G} {G : gG} {h : hH} {a0 : Int} {r : Int × hH} (hr : fX5_takeOn h a0 = some r) : Ctr l D G true yX5_takeOn M_X5_takeOn [(15, a0)] h (some (0, r.1), r.2) :=
  Ctr_of (by decide) rfl (fun z => by cases z) (nl rfl) (fun {p e R s m args below meth c A H0} => by
    exact oX5_takeOn_b0 (K := fun z9 => z9 = r) (fun r9 z => by rw [z]) hr rfl)
/-! X5_readRef -/
theorem dX5_readRef_0 : decode cX5_readRef 0 = .ok (.aload_n 0, 1) := by decide +kernel
theorem dX5_readRef_1 : decode cX5_readRef 1 = .ok (.getfield 18, 3) := by decide +kernel
theorem dX5_readRef_4 : decode cX5_readRef 4 = .ok (.invokevirtual 79, 3) := by decide +kernel
theorem dX5_readRef_7 : decode cX5_readRef 7 = .ok (.aload_n 0, 1) := by decide +kernel
theorem dX5_readRef_8 : decode cX5_readRef 8 = .ok (.invokevirtual 123, 3) := by decide +kernel
theorem dX5_readRef_11 : decode cX5_readRef 11 = .ok (.ifCond .eq 16, 3) := by decide +kernel
theorem dX5_readRef_14 : decode cX5_readRef 14 = .ok (.aload_n 0, 1) := by decide +kernel
theorem dX5_readRef_15 : decode cX5_readRef 15 = .ok (.getfield 18, 3) := by decide +kernel
theorem dX5_readRef_18 : decode cX5_readRef 18 = .ok (.sipush 131, 3) := by decide +kernel
theorem dX5_readRef_21 : decode cX5_readRef 21 = .ok (.invokevirtual 64, 3) := by decide +kernel
theorem dX5_readRef_24 : decode cX5_readRef 24 = .ok (.ifCond .ne 5, 3) := by decide +kernel
theorem dX5_readRef_27 : decode cX5_readRef 27 = .ok (.iconst 0, 1) := by decide +kernel
theorem dX5_readRef_28 : decode cX5_readRef 28 = .ok (.ireturn, 1) := by decide +kernel
theorem dX5_readRef_29 : decode cX5_readRef 29 = .ok (.aload_n 0, 1) := by decide +kernel
theorem dX5_readRef_30 : decode cX5_readRef 30 = .ok (.getfield 18, 3) := by decide +kernel
theorem dX5_readRef_33 : decode cX5_readRef 33 = .ok (.aload_n 0, 1) := by decide +kernel
theorem dX5_readRef_34 : decode cX5_readRef 34 = .ok (.getfield 12, 3) := by decide +kernel
theorem dX5_readRef_37 : decode cX5_readRef 37 = .ok (.invokevirtual 106, 3) := by decide +kernel
theorem dX5_readRef_40 : decode cX5_readRef 40 = .ok (.istore_n 1, 1) := by decide +kernel
theorem dX5_readRef_41 : decode cX5_readRef 41 = .ok (.iload_n 1, 1) := by decide +kernel
theorem dX5_readRef_42 : decode cX5_readRef 42 = .ok (.iconst (-1), 1) := by decide +kernel
theorem dX5_readRef_43 : decode cX5_readRef 43 = .ok (.if_icmp .ne 7, 3) := by decide +kernel
theorem dX5_readRef_46 : decode cX5_readRef 46 = .ok (.iconst (-1), 1) := by decide +kernel
theorem dX5_readRef_47 : decode cX5_readRef 47 = .ok (.goto 21, 3) := by decide +kernel
theorem dX5_readRef_50 : decode cX5_readRef 50 = .ok (.aload_n 0, 1) := by decide +kernel
theorem dX5_readRef_51 : decode cX5_readRef 51 = .ok (.iload_n 1, 1) := by decide +kernel
theorem dX5_readRef_52 : decode cX5_readRef 52 = .ok (.aload_n 0, 1) := by decide +kernel
theorem dX5_readRef_53 : decode cX5_readRef 53 = .ok (.getfield 120, 3) := by decide +kernel
theorem dX5_readRef_56 : decode cX5_readRef 56 = .ok (.iconst (-1), 1) := by decide +kernel
theorem dX5_readRef_57 : decode cX5_readRef 57 = .ok (.if_icmp .eq 7, 3) := by decide +kernel
theorem dX5_readRef_60 : decode cX5_readRef 60 = .ok (.iconst 1, 1) := by decide +kernel
theorem dX5_readRef_61 : decode cX5_readRef 61 = .ok (.goto 4, 3) := by decide +kernel
theorem dX5_readRef_64 : decode cX5_readRef 64 = .ok (.iconst 0, 1) := by decide +kernel
theorem dX5_readRef_65 : decode cX5_readRef 65 = .ok (.invokevirtual 130, 3) := by decide +kernel
theorem dX5_readRef_68 : decode cX5_readRef 68 = .ok (.istore_n 2, 1) := by decide +kernel
theorem dX5_readRef_69 : decode cX5_readRef 69 = .ok (.iload_n 2, 1) := by decide +kernel
theorem dX5_readRef_70 : decode cX5_readRef 70 = .ok (.iconst (-1), 1) := by decide +kernel
theorem dX5_readRef_71 : decode cX5_readRef 71 = .ok (.if_icmp .ne 7, 3) := by decide +kernel
theorem dX5_readRef_74 : decode cX5_readRef 74 = .ok (.iconst (-1), 1) := by decide +kernel
theorem dX5_readRef_75 : decode cX5_readRef 75 = .ok (.goto 7, 3) := by decide +kernel
theorem dX5_readRef_78 : decode cX5_readRef 78 = .ok (.aload_n 0, 1) := by decide +kernel
theorem dX5_readRef_79 : decode cX5_readRef 79 = .ok (.invokevirtual 134, 3) := by decide +kernel
theorem dX5_readRef_82 : decode cX5_readRef 82 = .ok (.istore_n 3, 1) := by decide +kernel
theorem dX5_readRef_83 : decode cX5_readRef 83 = .ok (.iload_n 3, 1) := by decide +kernel
theorem dX5_readRef_84 : decode cX5_readRef 84 = .ok (.iconst (-1), 1) := by decide +kernel
theorem dX5_readRef_85 : decode cX5_readRef 85 = .ok (.if_icmp .ne 7, 3) := by decide +kernel
theorem dX5_readRef_88 : decode cX5_readRef 88 = .ok (.iconst (-1), 1) := by decide +kernel
theorem dX5_readRef_89 : decode cX5_readRef 89 = .ok (.goto 7, 3) := by decide +kernel
theorem dX5_readRef_92 : decode cX5_readRef 92 = .ok (.aload_n 0, 1) := by decide +kernel
theorem dX5_readRef_93 : decode cX5_readRef 93 = .ok (.invokevirtual 134, 3) := by decide +kernel
theorem dX5_readRef_96 : decode cX5_readRef 96 = .ok (.istore 4, 2) := by decide +kernel
theorem dX5_readRef_98 : decode cX5_readRef 98 = .ok (.iload 4, 2) := by decide +kernel
theorem dX5_readRef_100 : decode cX5_readRef 100 = .ok (.iconst (-1), 1) := by decide +kernel
theorem dX5_readRef_101 : decode cX5_readRef 101 = .ok (.if_icmp .ne 5, 3) := by decide +kernel
theorem dX5_readRef_104 : decode cX5_readRef 104 = .ok (.iconst 0, 1) := by decide +kernel
theorem dX5_readRef_105 : decode cX5_readRef 105 = .ok (.ireturn, 1) := by decide +kernel
theorem dX5_readRef_106 : decode cX5_readRef 106 = .ok (.aload_n 0, 1) := by decide +kernel
theorem dX5_readRef_107 : decode cX5_readRef 107 = .ok (.getfield 12, 3) := by decide +kernel
theorem dX5_readRef_110 : decode cX5_readRef 110 = .ok (.getfield 73, 3) := by decide +kernel
theorem dX5_readRef_113 : decode cX5_readRef 113 = .ok (.bipush 9, 2) := by decide +kernel
theorem dX5_readRef_115 : decode cX5_readRef 115 = .ok (.imul, 1) := by decide +kernel
theorem dX5_readRef_116 : decode cX5_readRef 116 = .ok (.istore 5, 2) := by decide +kernel
theorem dX5_readRef_118 : decode cX5_readRef 118 = .ok (.aload_n 0, 1) := by decide +kernel
theorem dX5_readRef_119 : decode cX5_readRef 119 = .ok (.getfield 12, 3) := by decide +kernel
theorem dX5_readRef_122 : decode cX5_readRef 122 = .ok (.getfield 138, 3) := by decide +kernel
theorem dX5_readRef_125 : decode cX5_readRef 125 = .ok (.iload 5, 2) := by decide +kernel
theorem dX5_readRef_127 : decode cX5_readRef 127 = .ok (.iconst 0, 1) := by decide +kernel
theorem dX5_readRef_128 : decode cX5_readRef 128 = .ok (.iadd, 1) := by decide +kernel
theorem dX5_readRef_129 : decode cX5_readRef 129 = .ok (.aload_n 0, 1) := by decide +kernel
theorem dX5_readRef_130 : decode cX5_readRef 130 = .ok (.getfield 110, 3) := by decide +kernel
theorem dX5_readRef_133 : decode cX5_readRef 133 = .ok (.invokestatic 142, 3) := by decide +kernel
theorem dX5_readRef_136 : decode cX5_readRef 136 = .ok (.aload_n 0, 1) := by decide +kernel
theorem dX5_readRef_137 : decode cX5_readRef 137 = .ok (.getfield 12, 3) := by decide +kernel
theorem dX5_readRef_140 : decode cX5_readRef 140 = .ok (.getfield 138, 3) := by decide +kernel
theorem dX5_readRef_143 : decode cX5_readRef 143 = .ok (.iload 5, 2) := by decide +kernel
theorem dX5_readRef_145 : decode cX5_readRef 145 = .ok (.iconst 1, 1) := by decide +kernel
theorem dX5_readRef_146 : decode cX5_readRef 146 = .ok (.iadd, 1) := by decide +kernel
theorem dX5_readRef_147 : decode cX5_readRef 147 = .ok (.iload_n 1, 1) := by decide +kernel
theorem dX5_readRef_148 : decode cX5_readRef 148 = .ok (.invokestatic 142, 3) := by decide +kernel
theorem dX5_readRef_151 : decode cX5_readRef 151 = .ok (.aload_n 0, 1) := by decide +kernel
theorem dX5_readRef_152 : decode cX5_readRef 152 = .ok (.getfield 12, 3) := by decide +kernel
theorem dX5_readRef_155 : decode cX5_readRef 155 = .ok (.getfield 138, 3) := by decide +kernel
theorem dX5_readRef_158 : decode cX5_readRef 158 = .ok (.iload 5, 2) := by decide +kernel
theorem dX5_readRef_160 : decode cX5_readRef 160 = .ok (.iconst 2, 1) := by decide +kernel
theorem dX5_readRef_161 : decode cX5_readRef 161 = .ok (.iadd, 1) := by decide +kernel
theorem dX5_readRef_162 : decode cX5_readRef 162 = .ok (.iload_n 2, 1) := by decide +kernel
theorem dX5_readRef_163 : decode cX5_readRef 163 = .ok (.invokestatic 142, 3) := by decide +kernel
theorem dX5_readRef_166 : decode cX5_readRef 166 = .ok (.aload_n 0, 1) := by decide +kernel
theorem dX5_readRef_167 : decode cX5_readRef 167 = .ok (.getfield 12, 3) := by decide +kernel
theorem dX5_readRef_170 : decode cX5_readRef 170 = .ok (.getfield 138, 3) := by decide +kernel
theorem dX5_readRef_173 : decode cX5_readRef 173 = .ok (.iload 5, 2) := by decide +kernel
theorem dX5_readRef_175 : decode cX5_readRef 175 = .ok (.iconst 3, 1) := by decide +kernel
theorem dX5_readRef_176 : decode cX5_readRef 176 = .ok (.iadd, 1) := by decide +kernel
theorem dX5_readRef_177 : decode cX5_readRef 177 = .ok (.iload_n 3, 1) := by decide +kernel
theorem dX5_readRef_178 : decode cX5_readRef 178 = .ok (.invokestatic 142, 3) := by decide +kernel
theorem dX5_readRef_181 : decode cX5_readRef 181 = .ok (.aload_n 0, 1) := by decide +kernel
theorem dX5_readRef_182 : decode cX5_readRef 182 = .ok (.getfield 12, 3) := by decide +kernel
theorem dX5_readRef_185 : decode cX5_readRef 185 = .ok (.getfield 138, 3) := by decide +kernel
theorem dX5_readRef_188 : decode cX5_readRef 188 = .ok (.iload 5, 2) := by decide +kernel
theorem dX5_readRef_190 : decode cX5_readRef 190 = .ok (.iconst 4, 1) := by decide +kernel
theorem dX5_readRef_191 : decode cX5_readRef 191 = .ok (.iadd, 1) := by decide +kernel
theorem dX5_readRef_192 : decode cX5_readRef 192 = .ok (.iload 4, 2) := by decide +kernel
theorem dX5_readRef_194 : decode cX5_readRef 194 = .ok (.invokestatic 142, 3) := by decide +kernel
theorem dX5_readRef_197 : decode cX5_readRef 197 = .ok (.aload_n 0, 1) := by decide +kernel
theorem dX5_readRef_198 : decode cX5_readRef 198 = .ok (.getfield 12, 3) := by decide +kernel
theorem dX5_readRef_201 : decode cX5_readRef 201 = .ok (.getfield 138, 3) := by decide +kernel
theorem dX5_readRef_204 : decode cX5_readRef 204 = .ok (.iload 5, 2) := by decide +kernel
theorem dX5_readRef_206 : decode cX5_readRef 206 = .ok (.iconst 5, 1) := by decide +kernel
theorem dX5_readRef_207 : decode cX5_readRef 207 = .ok (.iadd, 1) := by decide +kernel
theorem dX5_readRef_208 : decode cX5_readRef 208 = .ok (.aload_n 0, 1) := by decide +kernel
theorem dX5_readRef_209 : decode cX5_readRef 209 = .ok (.getfield 18, 3) := by decide +kernel
theorem dX5_readRef_212 : decode cX5_readRef 212 = .ok (.sipush 136, 3) := by decide +kernel
theorem dX5_readRef_215 : decode cX5_readRef 215 = .ok (.invokevirtual 146, 3) := by decide +kernel
theorem dX5_readRef_218 : decode cX5_readRef 218 = .ok (.ifCond .eq 7, 3) := by decide +kernel
theorem dX5_readRef_221 : decode cX5_readRef 221 = .ok (.iconst 1, 1) := by decide +kernel
theorem dX5_readRef_222 : decode cX5_readRef 222 = .ok (.goto 4, 3) := by decide +kernel
theorem dX5_readRef_225 : decode cX5_readRef 225 = .ok (.iconst 0, 1) := by decide +kernel
theorem dX5_readRef_226 : decode cX5_readRef 226 = .ok (.invokestatic 142, 3) := by decide +kernel
theorem dX5_readRef_229 : decode cX5_readRef 229 = .ok (.aload_n 0, 1) := by decide +kernel
theorem dX5_readRef_230 : decode cX5_readRef 230 = .ok (.getfield 12, 3) := by decide +kernel
theorem dX5_readRef_233 : decode cX5_readRef 233 = .ok (.getfield 138, 3) := by decide +kernel
theorem dX5_readRef_236 : decode cX5_readRef 236 = .ok (.iload 5, 2) := by decide +kernel
theorem dX5_readRef_238 : decode cX5_readRef 238 = .ok (.bipush 6, 2) := by decide +kernel
theorem dX5_readRef_240 : decode cX5_readRef 240 = .ok (.iadd, 1) := by decide +kernel
theorem dX5_readRef_241 : decode cX5_readRef 241 = .ok (.aload_n 0, 1) := by decide +kernel
theorem dX5_readRef_242 : decode cX5_readRef 242 = .ok (.getfield 18, 3) := by decide +kernel
theorem dX5_readRef_245 : decode cX5_readRef 245 = .ok (.sipush 137, 3) := by decide +kernel
theorem dX5_readRef_248 : decode cX5_readRef 248 = .ok (.invokevirtual 146, 3) := by decide +kernel
theorem dX5_readRef_251 : decode cX5_readRef 251 = .ok (.ifCond .eq 7, 3) := by decide +kernel
theorem dX5_readRef_254 : decode cX5_readRef 254 = .ok (.iconst 1, 1) := by decide +kernel
theorem dX5_readRef_255 : decode cX5_readRef 255 = .ok (.goto 4, 3) := by decide +kernel
theorem dX5_readRef_258 : decode cX5_readRef 258 = .ok (.iconst 0, 1) := by decide +kernel
theorem dX5_readRef_259 : decode cX5_readRef 259 = .ok (.invokestatic 142, 3) := by decide +kernel
theorem dX5_readRef_262 : decode cX5_readRef 262 = .ok (.aload_n 0, 1) := by decide +kernel
theorem dX5_readRef_263 : decode cX5_readRef 263 = .ok (.getfield 12, 3) := by decide +kernel
theorem dX5_readRef_266 : decode cX5_readRef 266 = .ok (.getfield 138, 3) := by decide +kernel
theorem dX5_readRef_269 : decode cX5_readRef 269 = .ok (.iload 5, 2) := by decide +kernel
theorem dX5_readRef_271 : decode cX5_readRef 271 = .ok (.bipush 7, 2) := by decide +kernel
theorem dX5_readRef_273 : decode cX5_readRef 273 = .ok (.iadd, 1) := by decide +kernel
theorem dX5_readRef_274 : decode cX5_readRef 274 = .ok (.aload_n 0, 1) := by decide +kernel
theorem dX5_readRef_275 : decode cX5_readRef 275 = .ok (.getfield 117, 3) := by decide +kernel
theorem dX5_readRef_278 : decode cX5_readRef 278 = .ok (.invokestatic 142, 3) := by decide +kernel
theorem dX5_readRef_281 : decode cX5_readRef 281 = .ok (.aload_n 0, 1) := by decide +kernel
theorem dX5_readRef_282 : decode cX5_readRef 282 = .ok (.getfield 12, 3) := by decide +kernel
theorem dX5_readRef_285 : decode cX5_readRef 285 = .ok (.getfield 138, 3) := by decide +kernel
theorem dX5_readRef_288 : decode cX5_readRef 288 = .ok (.iload 5, 2) := by decide +kernel
theorem dX5_readRef_290 : decode cX5_readRef 290 = .ok (.bipush 8, 2) := by decide +kernel
theorem dX5_readRef_292 : decode cX5_readRef 292 = .ok (.iadd, 1) := by decide +kernel
theorem dX5_readRef_293 : decode cX5_readRef 293 = .ok (.aload_n 0, 1) := by decide +kernel
theorem dX5_readRef_294 : decode cX5_readRef 294 = .ok (.getfield 120, 3) := by decide +kernel
theorem dX5_readRef_297 : decode cX5_readRef 297 = .ok (.invokestatic 142, 3) := by decide +kernel
theorem dX5_readRef_300 : decode cX5_readRef 300 = .ok (.aload_n 0, 1) := by decide +kernel
theorem dX5_readRef_301 : decode cX5_readRef 301 = .ok (.getfield 12, 3) := by decide +kernel
theorem dX5_readRef_304 : decode cX5_readRef 304 = .ok (.dup, 1) := by decide +kernel
theorem dX5_readRef_305 : decode cX5_readRef 305 = .ok (.getfield 73, 3) := by decide +kernel
theorem dX5_readRef_308 : decode cX5_readRef 308 = .ok (.iconst 1, 1) := by decide +kernel
theorem dX5_readRef_309 : decode cX5_readRef 309 = .ok (.iadd, 1) := by decide +kernel
theorem dX5_readRef_310 : decode cX5_readRef 310 = .ok (.putfield 73, 3) := by decide +kernel
theorem dX5_readRef_313 : decode cX5_readRef 313 = .ok (.iconst 1, 1) := by decide +kernel
theorem dX5_readRef_314 : decode cX5_readRef 314 = .ok (.ireturn, 1) := by decide +kernel
abbrev M_X5_readRef : mM := (cX5_readRef, 6, RX5, some .boolean, false, 4, 99, 0, 0)
theorem gX5_readRef : cI yX5_readRef M_X5_readRef 0 := ⟨(wsl_19 _ (List.mem_of_getElem? (i := 6) rfl)), (wsl_19 _ (List.mem_of_getElem? (i := 7) rfl)), (wsl_2 _ (List.mem_of_getElem? (i := 7) rfl)), (wsl_19 _ (List.mem_of_getElem? (i := 8) rfl)), by decide +kernel⟩
noncomputable def fX5_readRef_b259 (h : hH) (a0 l5 s0 s1 s2 : Int) : Option (Int × hH) :=
  (fX11_put h s2 s1 s0).bind fun h259 =>
  (fX11_put h259 (h259 (h259 a0 1) 10) (w32 (l5 + 7)) (h259 a0 4)).bind fun h278 =>
  (fX11_put h278 (h278 (h278 a0 1) 10) (w32 (l5 + 8)) (h278 a0 5)).bind fun h297 =>
  (pput h297 (h297 a0 1) 2 (w32 ((h297 (h297 a0 1) 2) + 1))).bind fun h310 =>
  some (1, h310)
noncomputable def fX5_readRef_b226 (h : hH) (a0 l5 s0 s1 s2 : Int) : Option (Int × hH) :=
  (fX11_put h s2 s1 s0).bind fun h226 =>
  (fX9_option h226 (h226 a0 0) 137).bind fun q248 =>
  if q248.1 = 0 then
    fX5_readRef_b259 q248.2 a0 l5 0 (w32 (l5 + 6)) (h226 (h226 a0 1) 10)
  else
    fX5_readRef_b259 q248.2 a0 l5 1 (w32 (l5 + 6)) (h226 (h226 a0 1) 10)
noncomputable def fX5_readRef_b96 (h : hH) (a0 l1 l2 l3 s0 : Int) : Option (Int × hH) :=
  if s0 = -1 then
    some (0, h)
  else
    (fX11_put h (h (h a0 1) 10) (w32 ((w32 ((h (h a0 1) 2) * 9)) + 0)) (h a0 3)).bind fun h133 =>
    (fX11_put h133 (h133 (h133 a0 1) 10) (w32 ((w32 ((h (h a0 1) 2) * 9)) + 1)) l1).bind fun h148 =>
    (fX11_put h148 (h148 (h148 a0 1) 10) (w32 ((w32 ((h (h a0 1) 2) * 9)) + 2)) l2).bind fun h163 =>
    (fX11_put h163 (h163 (h163 a0 1) 10) (w32 ((w32 ((h (h a0 1) 2) * 9)) + 3)) l3).bind fun h178 =>
    (fX11_put h178 (h178 (h178 a0 1) 10) (w32 ((w32 ((h (h a0 1) 2) * 9)) + 4)) s0).bind fun h194 =>
    (fX9_option h194 (h194 a0 0) 136).bind fun q215 =>
    if q215.1 = 0 then
      fX5_readRef_b226 q215.2 a0 (w32 ((h (h a0 1) 2) * 9)) 0 (w32 ((w32 ((h (h a0 1) 2) * 9)) + 5)) (h194 (h194 a0 1) 10)
    else
      fX5_readRef_b226 q215.2 a0 (w32 ((h (h a0 1) 2) * 9)) 1 (w32 ((w32 ((h (h a0 1) 2) * 9)) + 5)) (h194 (h194 a0 1) 10)
noncomputable def fX5_readRef_b82 (h : hH) (a0 l1 l2 s0 : Int) : Option (Int × hH) :=
  if s0 = -1 then
    fX5_readRef_b96 h a0 l1 l2 s0 (-1)
  else
    (fX5_takeOn h a0).bind fun q93 =>
    fX5_readRef_b96 q93.2 a0 l1 l2 s0 q93.1
noncomputable def fX5_readRef_b68 (h : hH) (a0 l1 s0 : Int) : Option (Int × hH) :=
  if s0 = -1 then
    fX5_readRef_b82 h a0 l1 s0 (-1)
  else
    (fX5_takeOn h a0).bind fun q79 =>
    fX5_readRef_b82 q79.2 a0 l1 s0 q79.1
noncomputable def fX5_readRef_b65 (h : hH) (a0 l1 s0 s1 s2 : Int) : Option (Int × hH) :=
  (fX5_takeKey h s2 s1 s0).bind fun q65 =>
  fX5_readRef_b68 q65.2 a0 l1 q65.1
noncomputable def fX5_readRef (h : hH) (a0 : Int) : Option (Int × hH) :=
  (fX9_step h (h a0 0)).bind fun h4 =>
  (fX5_takeCols h4 a0).bind fun q8 =>
  if q8.1 = 0 then
    some (0, q8.2)
  else
    (fX9_take q8.2 (q8.2 a0 0) 131).bind fun q21 =>
    if q21.1 = 0 then
      some (0, q21.2)
    else
      (fX9_takeTable q21.2 (q21.2 a0 0) (q21.2 a0 1)).bind fun q37 =>
      if q37.1 = -1 then
        fX5_readRef_b68 q37.2 a0 q37.1 (-1)
      else
        if q37.2 a0 5 = -1 then
          fX5_readRef_b65 q37.2 a0 q37.1 0 q37.1 a0
        else
          fX5_readRef_b65 q37.2 a0 q37.1 1 q37.1 a0
section M_X5_readRef
variable {p : Program} {l : Launch} {e : Env} {R : Room} {s : State} {m : MethodId} {args : Array Value} {below : List Frame} {meth : Method} {c : Code} {D : va_G} {G : gG} {A : Nat → Prop} {H0 : Heap} {n0 : Int} {x : Option vV × hH} {h : hH}
set_option maxRecDepth 100000 in
set_option maxHeartbeats 4000000 in
theorem oX5_readRef_b259 {a0 l5 s0 s1 s2 : Int} {K : Int × hH → Prop} (k0 : ∀ r, K (r) → x = (some (2, r.1), r.2)) {r : Int × hH} (hr : fX5_readRef_b259 h a0 l5 s0 s1 s2 = some r) (hk : K r) : Wq p l e R s m args below meth c D G A H0 true n0 M_X5_readRef x 0 0 259 [(0, (15, a0)), (5, (0, l5))] [(2, s0), (0, s1), (50, s2)] h := by
  unfold fX5_readRef_b259 at hr
  refine r_scast 0 (v := (2, s0)) (w := (0, s0)) rfl zc hTz (st' := [(0, s0), (0, s1), (50, s2)]) rfl ?_
  obtain ⟨h259, hg259, hr⟩ := bnd hr
  refine k_SN (host := "FollowingRefs") (as := [(50, s2), (0, s1), (0, s0)]) (rest := []) (X := (none, h259)) (oX11_put hg259) gX11_put rfl (List.mem_of_getElem? (i := 26) rfl) rfl dX5_readRef_259 rfl ?_
  refine r_aload_n dX5_readRef_262 rfl 0 rfl (nl rfl) ?_
  refine r_get 5 1 (o := a0) (w := (14, h259 a0 1)) (T := TX5) (ref := "FollowingRefs$SchemaReader") rfl (by decide) rfl (by decide) inlX5 (wsl_4 _ (List.mem_of_getElem? (i := 23) rfl)) rfl dX5_readRef_263 rfl ?_
  refine r_get 4 10 (o := h259 a0 1) (w := (50, h259 (h259 a0 1) 10)) (T := TX4) (ref := "FollowingRefs$Schema") rfl (by decide) rfl (by decide) inlX4 (wsl_19 _ (List.mem_of_getElem? (i := 9) rfl)) rfl dX5_readRef_266 rfl ?_
  refine r_iload dX5_readRef_269 1 rfl (Or.inl rfl) ?_
  refine r_bipush dX5_readRef_271 (by decide) (by decide) ?_
  refine r_iadd dX5_readRef_273 ?_
  refine r_aload_n dX5_readRef_274 rfl 0 rfl (nl rfl) ?_
  refine r_get 5 4 (o := a0) (w := (0, h259 a0 4)) (T := TX5) (ref := "FollowingRefs$SchemaReader") rfl (by decide) rfl (by decide) inlX5 (wsl_18 _ (List.mem_of_getElem? (i := 4) rfl)) rfl dX5_readRef_275 rfl ?_
  obtain ⟨h278, hg278, hr⟩ := bnd hr
  refine k_SN (host := "FollowingRefs") (as := [(50, h259 (h259 a0 1) 10), (0, w32 (l5 + 7)), (0, h259 a0 4)]) (rest := []) (X := (none, h278)) (oX11_put hg278) gX11_put rfl (List.mem_of_getElem? (i := 26) rfl) rfl dX5_readRef_278 rfl ?_
  refine r_aload_n dX5_readRef_281 rfl 0 rfl (nl rfl) ?_
  refine r_get 5 1 (o := a0) (w := (14, h278 a0 1)) (T := TX5) (ref := "FollowingRefs$SchemaReader") rfl (by decide) rfl (by decide) inlX5 (wsl_4 _ (List.mem_of_getElem? (i := 23) rfl)) rfl dX5_readRef_282 rfl ?_
  refine r_get 4 10 (o := h278 a0 1) (w := (50, h278 (h278 a0 1) 10)) (T := TX4) (ref := "FollowingRefs$Schema") rfl (by decide) rfl (by decide) inlX4 (wsl_19 _ (List.mem_of_getElem? (i := 9) rfl)) rfl dX5_readRef_285 rfl ?_
  refine r_iload dX5_readRef_288 1 rfl (Or.inl rfl) ?_
  refine r_bipush dX5_readRef_290 (by decide) (by decide) ?_
  refine r_iadd dX5_readRef_292 ?_
  refine r_aload_n dX5_readRef_293 rfl 0 rfl (nl rfl) ?_
  refine r_get 5 5 (o := a0) (w := (0, h278 a0 5)) (T := TX5) (ref := "FollowingRefs$SchemaReader") rfl (by decide) rfl (by decide) inlX5 (wsl_18 _ (List.mem_of_getElem? (i := 5) rfl)) rfl dX5_readRef_294 rfl ?_
  obtain ⟨h297, hg297, hr⟩ := bnd hr
  refine k_SN (host := "FollowingRefs") (as := [(50, h278 (h278 a0 1) 10), (0, w32 (l5 + 8)), (0, h278 a0 5)]) (rest := []) (X := (none, h297)) (oX11_put hg297) gX11_put rfl (List.mem_of_getElem? (i := 26) rfl) rfl dX5_readRef_297 rfl ?_
  refine r_aload_n dX5_readRef_300 rfl 0 rfl (nl rfl) ?_
  refine r_get 5 1 (o := a0) (w := (14, h297 a0 1)) (T := TX5) (ref := "FollowingRefs$SchemaReader") rfl (by decide) rfl (by decide) inlX5 (wsl_4 _ (List.mem_of_getElem? (i := 23) rfl)) rfl dX5_readRef_301 rfl ?_
  refine r_dup dX5_readRef_304 (Nat.ne_of_beq_eq_false rfl) ?_
  refine r_get 4 2 (o := h297 a0 1) (w := (0, h297 (h297 a0 1) 2)) (T := TX4) (ref := "FollowingRefs$Schema") rfl (by decide) rfl (by decide) inlX4 (wsl_16 _ (List.mem_of_getElem? (i := 8) rfl)) rfl dX5_readRef_305 rfl ?_
  refine r_iconst dX5_readRef_308 (by decide) ?_
  refine r_iadd dX5_readRef_309 ?_
  obtain ⟨h310, hg310, hr⟩ := bnd hr
  refine r_put' 4 2 (t := 0) (ref := "FollowingRefs$Schema") hg310 rfl tyX4 tyX4_ok nmX4 rfl (by decide) rfl (by decide) inlX4 (wsl_16 _ (List.mem_of_getElem? (i := 8) rfl)) rfl rfl (by decide +kernel) (by decide) rfl (Or.inl ⟨rfl, rfl⟩) dX5_readRef_310 ?_
  refine r_iconst dX5_readRef_313 (by decide) ?_
  refine r_scast 0 (v := (0, 1)) (w := (2, 1)) rfl cz (fun _ => Or.inr rfl) (st' := [(2, 1)]) rfl ?_
  obtain rfl := Option.some.inj hr
  exact r_ret dX5_readRef_314 rfl (Or.inr ⟨rfl, rfl⟩) (k0 _ hk) ⟨rfl, rfl⟩
set_option maxRecDepth 100000 in
set_option maxHeartbeats 4000000 in
theorem oX5_readRef_b226 {a0 l5 s0 s1 s2 : Int} {K : Int × hH → Prop} (k0 : ∀ r, K (r) → x = (some (2, r.1), r.2)) {r : Int × hH} (hr : fX5_readRef_b226 h a0 l5 s0 s1 s2 = some r) (hk : K r) : Wq p l e R s m args below meth c D G A H0 true n0 M_X5_readRef x 0 0 226 [(0, (15, a0)), (5, (0, l5))] [(2, s0), (0, s1), (50, s2)] h := by
  unfold fX5_readRef_b226 at hr
  refine r_scast 0 (v := (2, s0)) (w := (0, s0)) rfl zc hTz (st' := [(0, s0), (0, s1), (50, s2)]) rfl ?_
  obtain ⟨h226, hg226, hr⟩ := bnd hr
  refine k_SN (host := "FollowingRefs") (as := [(50, s2), (0, s1), (0, s0)]) (rest := []) (X := (none, h226)) (oX11_put hg226) gX11_put rfl (List.mem_of_getElem? (i := 26) rfl) rfl dX5_readRef_226 rfl ?_
  refine r_aload_n dX5_readRef_229 rfl 0 rfl (nl rfl) ?_
  refine r_get 5 1 (o := a0) (w := (14, h226 a0 1)) (T := TX5) (ref := "FollowingRefs$SchemaReader") rfl (by decide) rfl (by decide) inlX5 (wsl_4 _ (List.mem_of_getElem? (i := 23) rfl)) rfl dX5_readRef_230 rfl ?_
  refine r_get 4 10 (o := h226 a0 1) (w := (50, h226 (h226 a0 1) 10)) (T := TX4) (ref := "FollowingRefs$Schema") rfl (by decide) rfl (by decide) inlX4 (wsl_19 _ (List.mem_of_getElem? (i := 9) rfl)) rfl dX5_readRef_233 rfl ?_
  refine r_iload dX5_readRef_236 1 rfl (Or.inl rfl) ?_
  refine r_bipush dX5_readRef_238 (by decide) (by decide) ?_
  refine r_iadd dX5_readRef_240 ?_
  refine r_aload_n dX5_readRef_241 rfl 0 rfl (nl rfl) ?_
  refine r_get 5 0 (o := a0) (w := (19, h226 a0 0)) (T := TX5) (ref := "FollowingRefs$SchemaReader") rfl (by decide) rfl (by decide) inlX5 (wsl_5 _ (List.mem_of_getElem? (i := 0) rfl)) rfl dX5_readRef_242 rfl ?_
  refine r_sipush dX5_readRef_245 (by decide) (by decide) ?_
  obtain ⟨q248, hg248, hr⟩ := bnd hr
  refine k_V (ci := 9) (o := h226 a0 0) (T := TX9) (as := [(0, 137)]) (rest := [(0, w32 (l5 + 6)), (50, h226 (h226 a0 1) 10)]) (X := (some (2, q248.1), q248.2)) (oX9_option hg248) gX9_option rfl (by decide) rfl (wsl_20 _ (List.mem_of_getElem? (i := 9) rfl)) rfl dX5_readRef_248 rfl ?_
  refine r_scast 0 (v := (2, q248.1)) (w := (0, q248.1)) rfl zc hTz (st' := [(0, q248.1), (0, w32 (l5 + 6)), (50, h226 (h226 a0 1) 10)]) rfl ?_
  refine r_if_eq dX5_readRef_251 (tgt := 258) (by decide) (fun hc => ?_) (fun hc => ?_)
  · have hr := ifp hr hc
    refine r_iconst dX5_readRef_258 (by decide) ?_
    refine r_scast 0 (v := (0, 0)) (w := (2, 0)) rfl cz (fun _ => Or.inl rfl) (st' := [(2, 0), (0, w32 (l5 + 6)), (50, h226 (h226 a0 1) 10)]) rfl ?_
    exact oX5_readRef_b259 (K := K) (fun r z => k0 r z) hr hk
  · have hr := ifn hr hc
    refine r_iconst dX5_readRef_254 (by decide) ?_
    refine r_goto dX5_readRef_255 (tgt := 259) (by decide) ?_
    refine r_scast 0 (v := (0, 1)) (w := (2, 1)) rfl cz (fun _ => Or.inr rfl) (st' := [(2, 1), (0, w32 (l5 + 6)), (50, h226 (h226 a0 1) 10)]) rfl ?_
    exact oX5_readRef_b259 (K := K) (fun r z => k0 r z) hr hk
set_option maxRecDepth 100000 in
set_option maxHeartbeats 4000000 in
theorem oX5_readRef_b96 {a0 l1 l2 l3 s0 : Int} {K : Int × hH → Prop} (k0 : ∀ r, K (r) → x = (some (2, r.1), r.2)) {r : Int × hH} (hr : fX5_readRef_b96 h a0 l1 l2 l3 s0 = some r) (hk : K r) : Wq p l e R s m args below meth c D G A H0 true n0 M_X5_readRef x 0 0 96 [(0, (15, a0)), (1, (0, l1)), (2, (0, l2)), (3, (0, l3))] [(0, s0)] h := by
  unfold fX5_readRef_b96 at hr
  refine r_istore dX5_readRef_96 (Or.inl rfl) (by decide) (lv' := [(4, (0, s0)), (0, (15, a0)), (1, (0, l1)), (2, (0, l2)), (3, (0, l3))]) rfl ?_
  refine r_iload dX5_readRef_98 0 rfl (Or.inl rfl) ?_
  refine r_iconst dX5_readRef_100 (by decide) ?_
  refine r_icmp_ne dX5_readRef_101 (tgt := 106) (by decide) (fun hc => ?_) (fun hc => ?_)
  · have hr := ifn hr hc
    refine r_aload_n dX5_readRef_106 rfl 1 rfl (nl rfl) ?_
    refine r_get 5 1 (o := a0) (w := (14, h a0 1)) (T := TX5) (ref := "FollowingRefs$SchemaReader") rfl (by decide) rfl (by decide) inlX5 (wsl_4 _ (List.mem_of_getElem? (i := 23) rfl)) rfl dX5_readRef_107 rfl ?_
    refine r_get 4 2 (o := h a0 1) (w := (0, h (h a0 1) 2)) (T := TX4) (ref := "FollowingRefs$Schema") rfl (by decide) rfl (by decide) inlX4 (wsl_16 _ (List.mem_of_getElem? (i := 8) rfl)) rfl dX5_readRef_110 rfl ?_
    refine r_bipush dX5_readRef_113 (by decide) (by decide) ?_
    refine r_imul dX5_readRef_115 ?_
    refine r_istore dX5_readRef_116 (Or.inl rfl) (by decide) (lv' := [(5, (0, w32 ((h (h a0 1) 2) * 9))), (4, (0, s0)), (0, (15, a0)), (1, (0, l1)), (2, (0, l2)), (3, (0, l3))]) rfl ?_
    refine r_aload_n dX5_readRef_118 rfl 2 rfl (nl rfl) ?_
    refine r_get 5 1 (o := a0) (w := (14, h a0 1)) (T := TX5) (ref := "FollowingRefs$SchemaReader") rfl (by decide) rfl (by decide) inlX5 (wsl_4 _ (List.mem_of_getElem? (i := 23) rfl)) rfl dX5_readRef_119 rfl ?_
    refine r_get 4 10 (o := h a0 1) (w := (50, h (h a0 1) 10)) (T := TX4) (ref := "FollowingRefs$Schema") rfl (by decide) rfl (by decide) inlX4 (wsl_19 _ (List.mem_of_getElem? (i := 9) rfl)) rfl dX5_readRef_122 rfl ?_
    refine r_iload dX5_readRef_125 0 rfl (Or.inl rfl) ?_
    refine r_iconst dX5_readRef_127 (by decide) ?_
    refine r_iadd dX5_readRef_128 ?_
    refine r_aload_n dX5_readRef_129 rfl 2 rfl (nl rfl) ?_
    refine r_get 5 3 (o := a0) (w := (0, h a0 3)) (T := TX5) (ref := "FollowingRefs$SchemaReader") rfl (by decide) rfl (by decide) inlX5 (wsl_18 _ (List.mem_of_getElem? (i := 3) rfl)) rfl dX5_readRef_130 rfl ?_
    obtain ⟨h133, hg133, hr⟩ := bnd hr
    refine k_SN (host := "FollowingRefs") (as := [(50, h (h a0 1) 10), (0, w32 ((w32 ((h (h a0 1) 2) * 9)) + 0)), (0, h a0 3)]) (rest := []) (X := (none, h133)) (oX11_put hg133) gX11_put rfl (List.mem_of_getElem? (i := 26) rfl) rfl dX5_readRef_133 rfl ?_
    refine r_aload_n dX5_readRef_136 rfl 2 rfl (nl rfl) ?_
    refine r_get 5 1 (o := a0) (w := (14, h133 a0 1)) (T := TX5) (ref := "FollowingRefs$SchemaReader") rfl (by decide) rfl (by decide) inlX5 (wsl_4 _ (List.mem_of_getElem? (i := 23) rfl)) rfl dX5_readRef_137 rfl ?_
    refine r_get 4 10 (o := h133 a0 1) (w := (50, h133 (h133 a0 1) 10)) (T := TX4) (ref := "FollowingRefs$Schema") rfl (by decide) rfl (by decide) inlX4 (wsl_19 _ (List.mem_of_getElem? (i := 9) rfl)) rfl dX5_readRef_140 rfl ?_
    refine r_iload dX5_readRef_143 0 rfl (Or.inl rfl) ?_
    refine r_iconst dX5_readRef_145 (by decide) ?_
    refine r_iadd dX5_readRef_146 ?_
    refine r_iload_n dX5_readRef_147 rfl 3 rfl (Or.inl rfl) ?_
    obtain ⟨h148, hg148, hr⟩ := bnd hr
    refine k_SN (host := "FollowingRefs") (as := [(50, h133 (h133 a0 1) 10), (0, w32 ((w32 ((h (h a0 1) 2) * 9)) + 1)), (0, l1)]) (rest := []) (X := (none, h148)) (oX11_put hg148) gX11_put rfl (List.mem_of_getElem? (i := 26) rfl) rfl dX5_readRef_148 rfl ?_
    refine r_aload_n dX5_readRef_151 rfl 2 rfl (nl rfl) ?_
    refine r_get 5 1 (o := a0) (w := (14, h148 a0 1)) (T := TX5) (ref := "FollowingRefs$SchemaReader") rfl (by decide) rfl (by decide) inlX5 (wsl_4 _ (List.mem_of_getElem? (i := 23) rfl)) rfl dX5_readRef_152 rfl ?_
    refine r_get 4 10 (o := h148 a0 1) (w := (50, h148 (h148 a0 1) 10)) (T := TX4) (ref := "FollowingRefs$Schema") rfl (by decide) rfl (by decide) inlX4 (wsl_19 _ (List.mem_of_getElem? (i := 9) rfl)) rfl dX5_readRef_155 rfl ?_
    refine r_iload dX5_readRef_158 0 rfl (Or.inl rfl) ?_
    refine r_iconst dX5_readRef_160 (by decide) ?_
    refine r_iadd dX5_readRef_161 ?_
    refine r_iload_n dX5_readRef_162 rfl 4 rfl (Or.inl rfl) ?_
    obtain ⟨h163, hg163, hr⟩ := bnd hr
    refine k_SN (host := "FollowingRefs") (as := [(50, h148 (h148 a0 1) 10), (0, w32 ((w32 ((h (h a0 1) 2) * 9)) + 2)), (0, l2)]) (rest := []) (X := (none, h163)) (oX11_put hg163) gX11_put rfl (List.mem_of_getElem? (i := 26) rfl) rfl dX5_readRef_163 rfl ?_
    refine r_aload_n dX5_readRef_166 rfl 2 rfl (nl rfl) ?_
    refine r_get 5 1 (o := a0) (w := (14, h163 a0 1)) (T := TX5) (ref := "FollowingRefs$SchemaReader") rfl (by decide) rfl (by decide) inlX5 (wsl_4 _ (List.mem_of_getElem? (i := 23) rfl)) rfl dX5_readRef_167 rfl ?_
    refine r_get 4 10 (o := h163 a0 1) (w := (50, h163 (h163 a0 1) 10)) (T := TX4) (ref := "FollowingRefs$Schema") rfl (by decide) rfl (by decide) inlX4 (wsl_19 _ (List.mem_of_getElem? (i := 9) rfl)) rfl dX5_readRef_170 rfl ?_
    refine r_iload dX5_readRef_173 0 rfl (Or.inl rfl) ?_
    refine r_iconst dX5_readRef_175 (by decide) ?_
    refine r_iadd dX5_readRef_176 ?_
    refine r_iload_n dX5_readRef_177 rfl 5 rfl (Or.inl rfl) ?_
    obtain ⟨h178, hg178, hr⟩ := bnd hr
    refine k_SN (host := "FollowingRefs") (as := [(50, h163 (h163 a0 1) 10), (0, w32 ((w32 ((h (h a0 1) 2) * 9)) + 3)), (0, l3)]) (rest := []) (X := (none, h178)) (oX11_put hg178) gX11_put rfl (List.mem_of_getElem? (i := 26) rfl) rfl dX5_readRef_178 rfl ?_
    refine r_aload_n dX5_readRef_181 rfl 2 rfl (nl rfl) ?_
    refine r_get 5 1 (o := a0) (w := (14, h178 a0 1)) (T := TX5) (ref := "FollowingRefs$SchemaReader") rfl (by decide) rfl (by decide) inlX5 (wsl_4 _ (List.mem_of_getElem? (i := 23) rfl)) rfl dX5_readRef_182 rfl ?_
    refine r_get 4 10 (o := h178 a0 1) (w := (50, h178 (h178 a0 1) 10)) (T := TX4) (ref := "FollowingRefs$Schema") rfl (by decide) rfl (by decide) inlX4 (wsl_19 _ (List.mem_of_getElem? (i := 9) rfl)) rfl dX5_readRef_185 rfl ?_
    refine r_iload dX5_readRef_188 0 rfl (Or.inl rfl) ?_
    refine r_iconst dX5_readRef_190 (by decide) ?_
    refine r_iadd dX5_readRef_191 ?_
    refine r_iload dX5_readRef_192 1 rfl (Or.inl rfl) ?_
    obtain ⟨h194, hg194, hr⟩ := bnd hr
    refine k_SN (host := "FollowingRefs") (as := [(50, h178 (h178 a0 1) 10), (0, w32 ((w32 ((h (h a0 1) 2) * 9)) + 4)), (0, s0)]) (rest := []) (X := (none, h194)) (oX11_put hg194) gX11_put rfl (List.mem_of_getElem? (i := 26) rfl) rfl dX5_readRef_194 rfl ?_
    refine r_aload_n dX5_readRef_197 rfl 2 rfl (nl rfl) ?_
    refine r_get 5 1 (o := a0) (w := (14, h194 a0 1)) (T := TX5) (ref := "FollowingRefs$SchemaReader") rfl (by decide) rfl (by decide) inlX5 (wsl_4 _ (List.mem_of_getElem? (i := 23) rfl)) rfl dX5_readRef_198 rfl ?_
    refine r_get 4 10 (o := h194 a0 1) (w := (50, h194 (h194 a0 1) 10)) (T := TX4) (ref := "FollowingRefs$Schema") rfl (by decide) rfl (by decide) inlX4 (wsl_19 _ (List.mem_of_getElem? (i := 9) rfl)) rfl dX5_readRef_201 rfl ?_
    refine r_iload dX5_readRef_204 0 rfl (Or.inl rfl) ?_
    refine r_iconst dX5_readRef_206 (by decide) ?_
    refine r_iadd dX5_readRef_207 ?_
    refine r_aload_n dX5_readRef_208 rfl 2 rfl (nl rfl) ?_
    refine r_get 5 0 (o := a0) (w := (19, h194 a0 0)) (T := TX5) (ref := "FollowingRefs$SchemaReader") rfl (by decide) rfl (by decide) inlX5 (wsl_5 _ (List.mem_of_getElem? (i := 0) rfl)) rfl dX5_readRef_209 rfl ?_
    refine r_sipush dX5_readRef_212 (by decide) (by decide) ?_
    obtain ⟨q215, hg215, hr⟩ := bnd hr
    refine k_V (ci := 9) (o := h194 a0 0) (T := TX9) (as := [(0, 136)]) (rest := [(0, w32 ((w32 ((h (h a0 1) 2) * 9)) + 5)), (50, h194 (h194 a0 1) 10)]) (X := (some (2, q215.1), q215.2)) (oX9_option hg215) gX9_option rfl (by decide) rfl (wsl_20 _ (List.mem_of_getElem? (i := 9) rfl)) rfl dX5_readRef_215 rfl ?_
    refine r_scast 0 (v := (2, q215.1)) (w := (0, q215.1)) rfl zc hTz (st' := [(0, q215.1), (0, w32 ((w32 ((h (h a0 1) 2) * 9)) + 5)), (50, h194 (h194 a0 1) 10)]) rfl ?_
    refine r_if_eq dX5_readRef_218 (tgt := 225) (by decide) (fun hc => ?_) (fun hc => ?_)
    · have hr := ifp hr hc
      refine r_iconst dX5_readRef_225 (by decide) ?_
      refine r_sub [2, 0] (lv' := [(0, (15, a0)), (5, (0, w32 ((h (h a0 1) 2) * 9)))]) rfl ?_
      refine r_scast 0 (v := (0, 0)) (w := (2, 0)) rfl cz (fun _ => Or.inl rfl) (st' := [(2, 0), (0, w32 ((w32 ((h (h a0 1) 2) * 9)) + 5)), (50, h194 (h194 a0 1) 10)]) rfl ?_
      exact oX5_readRef_b226 (K := K) (fun r z => k0 r z) hr hk
    · have hr := ifn hr hc
      refine r_iconst dX5_readRef_221 (by decide) ?_
      refine r_goto dX5_readRef_222 (tgt := 226) (by decide) ?_
      refine r_sub [2, 0] (lv' := [(0, (15, a0)), (5, (0, w32 ((h (h a0 1) 2) * 9)))]) rfl ?_
      refine r_scast 0 (v := (0, 1)) (w := (2, 1)) rfl cz (fun _ => Or.inr rfl) (st' := [(2, 1), (0, w32 ((w32 ((h (h a0 1) 2) * 9)) + 5)), (50, h194 (h194 a0 1) 10)]) rfl ?_
      exact oX5_readRef_b226 (K := K) (fun r z => k0 r z) hr hk
  · have hr := ifp hr hc
    refine r_iconst dX5_readRef_104 (by decide) ?_
    refine r_scast 0 (v := (0, 0)) (w := (2, 0)) rfl cz (fun _ => Or.inl rfl) (st' := [(2, 0)]) rfl ?_
    obtain rfl := Option.some.inj hr
    exact r_ret dX5_readRef_105 rfl (Or.inr ⟨rfl, rfl⟩) (k0 _ hk) ⟨rfl, rfl⟩
set_option maxRecDepth 100000 in
set_option maxHeartbeats 4000000 in
theorem oX5_readRef_b82 {a0 l1 l2 s0 : Int} {K : Int × hH → Prop} (k0 : ∀ r, K (r) → x = (some (2, r.1), r.2)) {r : Int × hH} (hr : fX5_readRef_b82 h a0 l1 l2 s0 = some r) (hk : K r) : Wq p l e R s m args below meth c D G A H0 true n0 M_X5_readRef x 0 0 82 [(0, (15, a0)), (1, (0, l1)), (2, (0, l2))] [(0, s0)] h := by
  unfold fX5_readRef_b82 at hr
  refine r_istore_n dX5_readRef_82 rfl (Or.inl rfl) (by decide) (lv' := [(3, (0, s0)), (0, (15, a0)), (1, (0, l1)), (2, (0, l2))]) rfl ?_
  refine r_iload_n dX5_readRef_83 rfl 0 rfl (Or.inl rfl) ?_
  refine r_iconst dX5_readRef_84 (by decide) ?_
  refine r_icmp_ne dX5_readRef_85 (tgt := 92) (by decide) (fun hc => ?_) (fun hc => ?_)
  · have hr := ifn hr hc
    refine r_aload_n dX5_readRef_92 rfl 1 rfl (nl rfl) ?_
    obtain ⟨q93, hg93, hr⟩ := bnd hr
    refine k_V (ci := 5) (o := a0) (T := TX5) (as := []) (rest := []) (X := (some (0, q93.1), q93.2)) (oX5_takeOn hg93) gX5_takeOn rfl (by decide) rfl (wsl_20 _ (List.mem_of_getElem? (i := 5) rfl)) rfl dX5_readRef_93 rfl ?_
    refine r_sub [1, 2, 3, 0] (lv' := [(0, (15, a0)), (1, (0, l1)), (2, (0, l2)), (3, (0, s0))]) rfl ?_
    exact oX5_readRef_b96 (K := K) (fun r z => k0 r z) hr hk
  · have hr := ifp hr hc
    refine r_iconst dX5_readRef_88 (by decide) ?_
    refine r_goto dX5_readRef_89 (tgt := 96) (by decide) ?_
    refine r_sub [1, 2, 3, 0] (lv' := [(0, (15, a0)), (1, (0, l1)), (2, (0, l2)), (3, (0, s0))]) rfl ?_
    exact oX5_readRef_b96 (K := K) (fun r z => k0 r z) hr hk
set_option maxRecDepth 100000 in
set_option maxHeartbeats 4000000 in
theorem oX5_readRef_b68 {a0 l1 s0 : Int} {K : Int × hH → Prop} (k0 : ∀ r, K (r) → x = (some (2, r.1), r.2)) {r : Int × hH} (hr : fX5_readRef_b68 h a0 l1 s0 = some r) (hk : K r) : Wq p l e R s m args below meth c D G A H0 true n0 M_X5_readRef x 0 0 68 [(0, (15, a0)), (1, (0, l1))] [(0, s0)] h := by
  unfold fX5_readRef_b68 at hr
  refine r_istore_n dX5_readRef_68 rfl (Or.inl rfl) (by decide) (lv' := [(2, (0, s0)), (0, (15, a0)), (1, (0, l1))]) rfl ?_
  refine r_iload_n dX5_readRef_69 rfl 0 rfl (Or.inl rfl) ?_
  refine r_iconst dX5_readRef_70 (by decide) ?_
  refine r_icmp_ne dX5_readRef_71 (tgt := 78) (by decide) (fun hc => ?_) (fun hc => ?_)
  · have hr := ifn hr hc
    refine r_aload_n dX5_readRef_78 rfl 1 rfl (nl rfl) ?_
    obtain ⟨q79, hg79, hr⟩ := bnd hr
    refine k_V (ci := 5) (o := a0) (T := TX5) (as := []) (rest := []) (X := (some (0, q79.1), q79.2)) (oX5_takeOn hg79) gX5_takeOn rfl (by decide) rfl (wsl_20 _ (List.mem_of_getElem? (i := 5) rfl)) rfl dX5_readRef_79 rfl ?_
    refine r_sub [1, 2, 0] (lv' := [(0, (15, a0)), (1, (0, l1)), (2, (0, s0))]) rfl ?_
    exact oX5_readRef_b82 (K := K) (fun r z => k0 r z) hr hk
  · have hr := ifp hr hc
    refine r_iconst dX5_readRef_74 (by decide) ?_
    refine r_goto dX5_readRef_75 (tgt := 82) (by decide) ?_
    refine r_sub [1, 2, 0] (lv' := [(0, (15, a0)), (1, (0, l1)), (2, (0, s0))]) rfl ?_
    exact oX5_readRef_b82 (K := K) (fun r z => k0 r z) hr hk
set_option maxRecDepth 100000 in
set_option maxHeartbeats 4000000 in
theorem oX5_readRef_b65 {a0 l1 s0 s1 s2 : Int} {K : Int × hH → Prop} (k0 : ∀ r, K (r) → x = (some (2, r.1), r.2)) {r : Int × hH} (hr : fX5_readRef_b65 h a0 l1 s0 s1 s2 = some r) (hk : K r) : Wq p l e R s m args below meth c D G A H0 true n0 M_X5_readRef x 0 0 65 [(0, (15, a0)), (1, (0, l1))] [(2, s0), (0, s1), (15, s2)] h := by
  unfold fX5_readRef_b65 at hr
  obtain ⟨q65, hg65, hr⟩ := bnd hr
  refine k_V (ci := 5) (o := s2) (T := TX5) (as := [(0, s1), (2, s0)]) (rest := []) (X := (some (0, q65.1), q65.2)) (oX5_takeKey hg65) gX5_takeKey rfl (by decide) rfl (wsl_19 _ (List.mem_of_getElem? (i := 14) rfl)) rfl dX5_readRef_65 rfl ?_
  exact oX5_readRef_b68 (K := K) (fun r z => k0 r z) hr hk
set_option maxRecDepth 100000 in
set_option maxHeartbeats 4000000 in
theorem oX5_readRef_b0 {a0 : Int} {K : Int × hH → Prop} (k0 : ∀ r, K (r) → x = (some (2, r.1), r.2)) {r : Int × hH} (hr : fX5_readRef h a0 = some r) (hk : K r) : Wq p l e R s m args below meth c D G A H0 true n0 M_X5_readRef x 0 0 0 [(0, (15, a0))] [] h := by
  unfold fX5_readRef at hr
  refine r_aload_n dX5_readRef_0 rfl 0 rfl (nl rfl) ?_
  refine r_get 5 0 (o := a0) (w := (19, h a0 0)) (T := TX5) (ref := "FollowingRefs$SchemaReader") rfl (by decide) rfl (by decide) inlX5 (wsl_5 _ (List.mem_of_getElem? (i := 0) rfl)) rfl dX5_readRef_1 rfl ?_
  obtain ⟨h4, hg4, hr⟩ := bnd hr
  refine k_V (ci := 9) (o := h a0 0) (T := TX9) (as := []) (rest := []) (X := (none, h4)) (oX9_step hg4) gX9_step rfl (by decide) rfl (wsl_16 _ (List.mem_of_getElem? (i := 19) rfl)) rfl dX5_readRef_4 rfl ?_
  refine r_aload_n dX5_readRef_7 rfl 0 rfl (nl rfl) ?_
  obtain ⟨q8, hg8, hr⟩ := bnd hr
  refine k_V (ci := 5) (o := a0) (T := TX5) (as := []) (rest := []) (X := (some (2, q8.1), q8.2)) (oX5_takeCols hg8) gX5_takeCols rfl (by decide) rfl (wsl_18 _ (List.mem_of_getElem? (i := 6) rfl)) rfl dX5_readRef_8 rfl ?_
  refine r_scast 0 (v := (2, q8.1)) (w := (0, q8.1)) rfl zc hTz (st' := [(0, q8.1)]) rfl ?_
  refine r_if_eq dX5_readRef_11 (tgt := 27) (by decide) (fun hc => ?_) (fun hc => ?_)
  · have hr := ifp hr hc
    refine r_iconst dX5_readRef_27 (by decide) ?_
    refine r_scast 0 (v := (0, 0)) (w := (2, 0)) rfl cz (fun _ => Or.inl rfl) (st' := [(2, 0)]) rfl ?_
    obtain rfl := Option.some.inj hr
    exact r_ret dX5_readRef_28 rfl (Or.inr ⟨rfl, rfl⟩) (k0 _ hk) ⟨rfl, rfl⟩
  · have hr := ifn hr hc
    refine r_aload_n dX5_readRef_14 rfl 0 rfl (nl rfl) ?_
    refine r_get 5 0 (o := a0) (w := (19, q8.2 a0 0)) (T := TX5) (ref := "FollowingRefs$SchemaReader") rfl (by decide) rfl (by decide) inlX5 (wsl_5 _ (List.mem_of_getElem? (i := 0) rfl)) rfl dX5_readRef_15 rfl ?_
    refine r_sipush dX5_readRef_18 (by decide) (by decide) ?_
    obtain ⟨q21, hg21, hr⟩ := bnd hr
    refine k_V (ci := 9) (o := q8.2 a0 0) (T := TX9) (as := [(0, 131)]) (rest := []) (X := (some (2, q21.1), q21.2)) (oX9_take hg21) gX9_take rfl (by decide) rfl (wsl_19 _ (List.mem_of_getElem? (i := 10) rfl)) rfl dX5_readRef_21 rfl ?_
    refine r_scast 0 (v := (2, q21.1)) (w := (0, q21.1)) rfl zc hTz (st' := [(0, q21.1)]) rfl ?_
    refine r_if_ne dX5_readRef_24 (tgt := 29) (by decide) (fun hc => ?_) (fun hc => ?_)
    · have hr := ifn hr hc
      refine r_aload_n dX5_readRef_29 rfl 0 rfl (nl rfl) ?_
      refine r_get 5 0 (o := a0) (w := (19, q21.2 a0 0)) (T := TX5) (ref := "FollowingRefs$SchemaReader") rfl (by decide) rfl (by decide) inlX5 (wsl_5 _ (List.mem_of_getElem? (i := 0) rfl)) rfl dX5_readRef_30 rfl ?_
      refine r_aload_n dX5_readRef_33 rfl 0 rfl (nl rfl) ?_
      refine r_get 5 1 (o := a0) (w := (14, q21.2 a0 1)) (T := TX5) (ref := "FollowingRefs$SchemaReader") rfl (by decide) rfl (by decide) inlX5 (wsl_4 _ (List.mem_of_getElem? (i := 23) rfl)) rfl dX5_readRef_34 rfl ?_
      obtain ⟨q37, hg37, hr⟩ := bnd hr
      refine k_V (ci := 9) (o := q21.2 a0 0) (T := TX9) (as := [(14, q21.2 a0 1)]) (rest := []) (X := (some (0, q37.1), q37.2)) (oX9_takeTable hg37) gX9_takeTable rfl (by decide) rfl (wsl_18 _ (List.mem_of_getElem? (i := 10) rfl)) rfl dX5_readRef_37 rfl ?_
      refine r_istore_n dX5_readRef_40 rfl (Or.inl rfl) (by decide) (lv' := [(1, (0, q37.1)), (0, (15, a0))]) rfl ?_
      refine r_iload_n dX5_readRef_41 rfl 0 rfl (Or.inl rfl) ?_
      refine r_iconst dX5_readRef_42 (by decide) ?_
      refine r_icmp_ne dX5_readRef_43 (tgt := 50) (by decide) (fun hc => ?_) (fun hc => ?_)
      · have hr := ifn hr hc
        refine r_aload_n dX5_readRef_50 rfl 1 rfl (nl rfl) ?_
        refine r_iload_n dX5_readRef_51 rfl 0 rfl (Or.inl rfl) ?_
        refine r_aload_n dX5_readRef_52 rfl 1 rfl (nl rfl) ?_
        refine r_get 5 5 (o := a0) (w := (0, q37.2 a0 5)) (T := TX5) (ref := "FollowingRefs$SchemaReader") rfl (by decide) rfl (by decide) inlX5 (wsl_18 _ (List.mem_of_getElem? (i := 5) rfl)) rfl dX5_readRef_53 rfl ?_
        refine r_iconst dX5_readRef_56 (by decide) ?_
        refine r_icmp_eq dX5_readRef_57 (tgt := 64) (by decide) (fun hc => ?_) (fun hc => ?_)
        · have hr := ifp hr hc
          refine r_iconst dX5_readRef_64 (by decide) ?_
          refine r_sub [1, 0] (lv' := [(0, (15, a0)), (1, (0, q37.1))]) rfl ?_
          refine r_scast 0 (v := (0, 0)) (w := (2, 0)) rfl cz (fun _ => Or.inl rfl) (st' := [(2, 0), (0, q37.1), (15, a0)]) rfl ?_
          exact oX5_readRef_b65 (K := K) (fun r z => k0 r z) hr hk
        · have hr := ifn hr hc
          refine r_iconst dX5_readRef_60 (by decide) ?_
          refine r_goto dX5_readRef_61 (tgt := 65) (by decide) ?_
          refine r_sub [1, 0] (lv' := [(0, (15, a0)), (1, (0, q37.1))]) rfl ?_
          refine r_scast 0 (v := (0, 1)) (w := (2, 1)) rfl cz (fun _ => Or.inr rfl) (st' := [(2, 1), (0, q37.1), (15, a0)]) rfl ?_
          exact oX5_readRef_b65 (K := K) (fun r z => k0 r z) hr hk
      · have hr := ifp hr hc
        refine r_iconst dX5_readRef_46 (by decide) ?_
        refine r_goto dX5_readRef_47 (tgt := 68) (by decide) ?_
        refine r_sub [1, 0] (lv' := [(0, (15, a0)), (1, (0, q37.1))]) rfl ?_
        exact oX5_readRef_b68 (K := K) (fun r z => k0 r z) hr hk
    · have hr := ifp hr hc
      refine r_iconst dX5_readRef_27 (by decide) ?_
      refine r_scast 0 (v := (0, 0)) (w := (2, 0)) rfl cz (fun _ => Or.inl rfl) (st' := [(2, 0)]) rfl ?_
      obtain rfl := Option.some.inj hr
      exact r_ret dX5_readRef_28 rfl (Or.inr ⟨rfl, rfl⟩) (k0 _ hk) ⟨rfl, rfl⟩
end M_X5_readRef
theorem oX5_readRef {l : Launch} {D : va_G} {G : gG} {h : hH} {a0 : Int} {r : Int × hH} (hr : fX5_readRef h a0 = some r) : Ctr l D G true yX5_readRef M_X5_readRef [(15, a0)] h (some (2, r.1), r.2) :=
  Ctr_of (by decide) rfl (fun z => by cases z) (nl rfl) (fun {p e R s m args below meth c A H0} => by
    exact oX5_readRef_b0 (K := fun z9 => z9 = r) (fun r9 z => by rw [z]) hr rfl)
/-! X5_readDefault -/
theorem dX5_readDefault_0 : decode cX5_readDefault 0 = .ok (.aload_n 0, 1) := by decide +kernel
theorem dX5_readDefault_1 : decode cX5_readDefault 1 = .ok (.getfield 18, 3) := by decide +kernel
theorem dX5_readDefault_4 : decode cX5_readDefault 4 = .ok (.invokevirtual 79, 3) := by decide +kernel
theorem dX5_readDefault_7 : decode cX5_readDefault 7 = .ok (.aload_n 0, 1) := by decide +kernel
theorem dX5_readDefault_8 : decode cX5_readDefault 8 = .ok (.getfield 18, 3) := by decide +kernel
theorem dX5_readDefault_11 : decode cX5_readDefault 11 = .ok (.aload_n 0, 1) := by decide +kernel
theorem dX5_readDefault_12 : decode cX5_readDefault 12 = .ok (.getfield 12, 3) := by decide +kernel
theorem dX5_readDefault_15 : decode cX5_readDefault 15 = .ok (.invokevirtual 106, 3) := by decide +kernel
theorem dX5_readDefault_18 : decode cX5_readDefault 18 = .ok (.istore_n 1, 1) := by decide +kernel
theorem dX5_readDefault_19 : decode cX5_readDefault 19 = .ok (.iload_n 1, 1) := by decide +kernel
theorem dX5_readDefault_20 : decode cX5_readDefault 20 = .ok (.iconst (-1), 1) := by decide +kernel
theorem dX5_readDefault_21 : decode cX5_readDefault 21 = .ok (.if_icmp .ne 7, 3) := by decide +kernel
theorem dX5_readDefault_24 : decode cX5_readDefault 24 = .ok (.iconst (-1), 1) := by decide +kernel
theorem dX5_readDefault_25 : decode cX5_readDefault 25 = .ok (.goto 16, 3) := by decide +kernel
theorem dX5_readDefault_28 : decode cX5_readDefault 28 = .ok (.aload_n 0, 1) := by decide +kernel
theorem dX5_readDefault_29 : decode cX5_readDefault 29 = .ok (.getfield 18, 3) := by decide +kernel
theorem dX5_readDefault_32 : decode cX5_readDefault 32 = .ok (.aload_n 0, 1) := by decide +kernel
theorem dX5_readDefault_33 : decode cX5_readDefault 33 = .ok (.getfield 12, 3) := by decide +kernel
theorem dX5_readDefault_36 : decode cX5_readDefault 36 = .ok (.iload_n 1, 1) := by decide +kernel
theorem dX5_readDefault_37 : decode cX5_readDefault 37 = .ok (.iconst (-1), 1) := by decide +kernel
theorem dX5_readDefault_38 : decode cX5_readDefault 38 = .ok (.invokevirtual 149, 3) := by decide +kernel
theorem dX5_readDefault_41 : decode cX5_readDefault 41 = .ok (.istore_n 2, 1) := by decide +kernel
theorem dX5_readDefault_42 : decode cX5_readDefault 42 = .ok (.iload_n 2, 1) := by decide +kernel
theorem dX5_readDefault_43 : decode cX5_readDefault 43 = .ok (.iconst (-1), 1) := by decide +kernel
theorem dX5_readDefault_44 : decode cX5_readDefault 44 = .ok (.if_icmp .ne 5, 3) := by decide +kernel
theorem dX5_readDefault_47 : decode cX5_readDefault 47 = .ok (.iconst 0, 1) := by decide +kernel
theorem dX5_readDefault_48 : decode cX5_readDefault 48 = .ok (.ireturn, 1) := by decide +kernel
theorem dX5_readDefault_49 : decode cX5_readDefault 49 = .ok (.aload_n 0, 1) := by decide +kernel
theorem dX5_readDefault_50 : decode cX5_readDefault 50 = .ok (.getfield 12, 3) := by decide +kernel
theorem dX5_readDefault_53 : decode cX5_readDefault 53 = .ok (.iload_n 1, 1) := by decide +kernel
theorem dX5_readDefault_54 : decode cX5_readDefault 54 = .ok (.iload_n 2, 1) := by decide +kernel
theorem dX5_readDefault_55 : decode cX5_readDefault 55 = .ok (.invokevirtual 156, 3) := by decide +kernel
theorem dX5_readDefault_58 : decode cX5_readDefault 58 = .ok (.iconst (-1), 1) := by decide +kernel
theorem dX5_readDefault_59 : decode cX5_readDefault 59 = .ok (.if_icmp .eq 12, 3) := by decide +kernel
theorem dX5_readDefault_62 : decode cX5_readDefault 62 = .ok (.aload_n 0, 1) := by decide +kernel
theorem dX5_readDefault_63 : decode cX5_readDefault 63 = .ok (.getfield 18, 3) := by decide +kernel
theorem dX5_readDefault_66 : decode cX5_readDefault 66 = .ok (.iconst 3, 1) := by decide +kernel
theorem dX5_readDefault_67 : decode cX5_readDefault 67 = .ok (.invokevirtual 42, 3) := by decide +kernel
theorem dX5_readDefault_70 : decode cX5_readDefault 70 = .ok (.ireturn, 1) := by decide +kernel
theorem dX5_readDefault_71 : decode cX5_readDefault 71 = .ok (.aload_n 0, 1) := by decide +kernel
theorem dX5_readDefault_72 : decode cX5_readDefault 72 = .ok (.getfield 18, 3) := by decide +kernel
theorem dX5_readDefault_75 : decode cX5_readDefault 75 = .ok (.invokevirtual 79, 3) := by decide +kernel
theorem dX5_readDefault_78 : decode cX5_readDefault 78 = .ok (.aload_n 0, 1) := by decide +kernel
theorem dX5_readDefault_79 : decode cX5_readDefault 79 = .ok (.getfield 18, 3) := by decide +kernel
theorem dX5_readDefault_82 : decode cX5_readDefault 82 = .ok (.invokevirtual 160, 3) := by decide +kernel
theorem dX5_readDefault_85 : decode cX5_readDefault 85 = .ok (.istore_n 3, 1) := by decide +kernel
theorem dX5_readDefault_86 : decode cX5_readDefault 86 = .ok (.aload_n 0, 1) := by decide +kernel
theorem dX5_readDefault_87 : decode cX5_readDefault 87 = .ok (.getfield 12, 3) := by decide +kernel
theorem dX5_readDefault_90 : decode cX5_readDefault 90 = .ok (.getfield 163, 3) := by decide +kernel
theorem dX5_readDefault_93 : decode cX5_readDefault 93 = .ok (.iload_n 1, 1) := by decide +kernel
theorem dX5_readDefault_94 : decode cX5_readDefault 94 = .ok (.iconst 4, 1) := by decide +kernel
theorem dX5_readDefault_95 : decode cX5_readDefault 95 = .ok (.imul, 1) := by decide +kernel
theorem dX5_readDefault_96 : decode cX5_readDefault 96 = .ok (.iload_n 2, 1) := by decide +kernel
theorem dX5_readDefault_97 : decode cX5_readDefault 97 = .ok (.iadd, 1) := by decide +kernel
theorem dX5_readDefault_98 : decode cX5_readDefault 98 = .ok (.iload_n 3, 1) := by decide +kernel
theorem dX5_readDefault_99 : decode cX5_readDefault 99 = .ok (.invokestatic 142, 3) := by decide +kernel
theorem dX5_readDefault_102 : decode cX5_readDefault 102 = .ok (.iload_n 3, 1) := by decide +kernel
theorem dX5_readDefault_103 : decode cX5_readDefault 103 = .ok (.iconst (-1), 1) := by decide +kernel
theorem dX5_readDefault_104 : decode cX5_readDefault 104 = .ok (.if_icmp .eq 7, 3) := by decide +kernel
theorem dX5_readDefault_107 : decode cX5_readDefault 107 = .ok (.iconst 1, 1) := by decide +kernel
theorem dX5_readDefault_108 : decode cX5_readDefault 108 = .ok (.goto 4, 3) := by decide +kernel
theorem dX5_readDefault_111 : decode cX5_readDefault 111 = .ok (.iconst 0, 1) := by decide +kernel
theorem dX5_readDefault_112 : decode cX5_readDefault 112 = .ok (.ireturn, 1) := by decide +kernel
abbrev M_X5_readDefault : mM := (cX5_readDefault, 4, RX5, some .boolean, false, 3, 66, 0, 0)
theorem gX5_readDefault : cI yX5_readDefault M_X5_readDefault 0 := ⟨(wsl_20 _ (List.mem_of_getElem? (i := 14) rfl)), (wsl_20 _ (List.mem_of_getElem? (i := 15) rfl)), (wsl_2 _ (List.mem_of_getElem? (i := 7) rfl)), (wsl_20 _ (List.mem_of_getElem? (i := 16) rfl)), by decide +kernel⟩
noncomputable def fX5_readDefault_b41 (h : hH) (a0 l1 s0 : Int) : Option (Int × hH) :=
  if s0 = -1 then
    some (0, h)
  else
    (fX4_defaultOf h (h a0 1) l1 s0).bind fun r55 =>
    if r55 = -1 then
      (fX9_step h (h a0 0)).bind fun h75 =>
      (fX9_takeNumber h75 (h75 a0 0)).bind fun q82 =>
      (fX11_put q82.2 (q82.2 (q82.2 a0 1) 7) (w32 ((w32 (l1 * 4)) + s0)) q82.1).bind fun h99 =>
      if q82.1 = -1 then
        some (0, h99)
      else
        some (1, h99)
    else
      (fX9_fail h (h a0 0) 3).bind fun q67 =>
      some (q67.1, q67.2)
noncomputable def fX5_readDefault (h : hH) (a0 : Int) : Option (Int × hH) :=
  (fX9_step h (h a0 0)).bind fun h4 =>
  (fX9_takeTable h4 (h4 a0 0) (h4 a0 1)).bind fun q15 =>
  if q15.1 = -1 then
    fX5_readDefault_b41 q15.2 a0 q15.1 (-1)
  else
    (fX9_colHere q15.2 (q15.2 a0 0) (q15.2 a0 1) q15.1 (-1)).bind fun q38 =>
    fX5_readDefault_b41 q38.2 a0 q15.1 q38.1
section M_X5_readDefault
variable {p : Program} {l : Launch} {e : Env} {R : Room} {s : State} {m : MethodId} {args : Array Value} {below : List Frame} {meth : Method} {c : Code} {D : va_G} {G : gG} {A : Nat → Prop} {H0 : Heap} {n0 : Int} {x : Option vV × hH} {h : hH}
set_option maxRecDepth 100000 in
set_option maxHeartbeats 4000000 in
theorem oX5_readDefault_b41 {a0 l1 s0 : Int} {K : Int × hH → Prop} (k0 : ∀ r, K (r) → x = (some (2, r.1), r.2)) {r : Int × hH} (hr : fX5_readDefault_b41 h a0 l1 s0 = some r) (hk : K r) : Wq p l e R s m args below meth c D G A H0 true n0 M_X5_readDefault x 0 0 41 [(0, (15, a0)), (1, (0, l1))] [(0, s0)] h := by
  unfold fX5_readDefault_b41 at hr
  refine r_istore_n dX5_readDefault_41 rfl (Or.inl rfl) (by decide) (lv' := [(2, (0, s0)), (0, (15, a0)), (1, (0, l1))]) rfl ?_
  refine r_iload_n dX5_readDefault_42 rfl 0 rfl (Or.inl rfl) ?_
  refine r_iconst dX5_readDefault_43 (by decide) ?_
  refine r_icmp_ne dX5_readDefault_44 (tgt := 49) (by decide) (fun hc => ?_) (fun hc => ?_)
  · have hr := ifn hr hc
    refine r_aload_n dX5_readDefault_49 rfl 1 rfl (nl rfl) ?_
    refine r_get 5 1 (o := a0) (w := (14, h a0 1)) (T := TX5) (ref := "FollowingRefs$SchemaReader") rfl (by decide) rfl (by decide) inlX5 (wsl_4 _ (List.mem_of_getElem? (i := 23) rfl)) rfl dX5_readDefault_50 rfl ?_
    refine r_iload_n dX5_readDefault_53 rfl 2 rfl (Or.inl rfl) ?_
    refine r_iload_n dX5_readDefault_54 rfl 0 rfl (Or.inl rfl) ?_
    obtain ⟨r55, hg55, hr⟩ := bnd hr
    refine k_V (ci := 4) (o := h a0 1) (T := TX4) (as := [(0, l1), (0, s0)]) (rest := []) (X := (some (0, r55), h)) (oX4_defaultOf hg55) gX4_defaultOf rfl (by decide) rfl (wsl_20 _ (List.mem_of_getElem? (i := 18) rfl)) rfl dX5_readDefault_55 rfl ?_
    refine r_iconst dX5_readDefault_58 (by decide) ?_
    refine r_icmp_eq dX5_readDefault_59 (tgt := 71) (by decide) (fun hc => ?_) (fun hc => ?_)
    · have hr := ifp hr hc
      refine r_aload_n dX5_readDefault_71 rfl 1 rfl (nl rfl) ?_
      refine r_get 5 0 (o := a0) (w := (19, h a0 0)) (T := TX5) (ref := "FollowingRefs$SchemaReader") rfl (by decide) rfl (by decide) inlX5 (wsl_5 _ (List.mem_of_getElem? (i := 0) rfl)) rfl dX5_readDefault_72 rfl ?_
      obtain ⟨h75, hg75, hr⟩ := bnd hr
      refine k_V (ci := 9) (o := h a0 0) (T := TX9) (as := []) (rest := []) (X := (none, h75)) (oX9_step hg75) gX9_step rfl (by decide) rfl (wsl_16 _ (List.mem_of_getElem? (i := 19) rfl)) rfl dX5_readDefault_75 rfl ?_
      refine r_aload_n dX5_readDefault_78 rfl 1 rfl (nl rfl) ?_
      refine r_get 5 0 (o := a0) (w := (19, h75 a0 0)) (T := TX5) (ref := "FollowingRefs$SchemaReader") rfl (by decide) rfl (by decide) inlX5 (wsl_5 _ (List.mem_of_getElem? (i := 0) rfl)) rfl dX5_readDefault_79 rfl ?_
      obtain ⟨q82, hg82, hr⟩ := bnd hr
      refine k_V (ci := 9) (o := h75 a0 0) (T := TX9) (as := []) (rest := []) (X := (some (0, q82.1), q82.2)) (oX9_takeNumber hg82) gX9_takeNumber rfl (by decide) rfl (wsl_21 _ (List.mem_of_getElem? (i := 2) rfl)) rfl dX5_readDefault_82 rfl ?_
      refine r_istore_n dX5_readDefault_85 rfl (Or.inl rfl) (by decide) (lv' := [(3, (0, q82.1)), (2, (0, s0)), (0, (15, a0)), (1, (0, l1))]) rfl ?_
      refine r_aload_n dX5_readDefault_86 rfl 2 rfl (nl rfl) ?_
      refine r_get 5 1 (o := a0) (w := (14, q82.2 a0 1)) (T := TX5) (ref := "FollowingRefs$SchemaReader") rfl (by decide) rfl (by decide) inlX5 (wsl_4 _ (List.mem_of_getElem? (i := 23) rfl)) rfl dX5_readDefault_87 rfl ?_
      refine r_get 4 7 (o := q82.2 a0 1) (w := (50, q82.2 (q82.2 a0 1) 7)) (T := TX4) (ref := "FollowingRefs$Schema") rfl (by decide) rfl (by decide) inlX4 (wsl_20 _ (List.mem_of_getElem? (i := 17) rfl)) rfl dX5_readDefault_90 rfl ?_
      refine r_iload_n dX5_readDefault_93 rfl 3 rfl (Or.inl rfl) ?_
      refine r_iconst dX5_readDefault_94 (by decide) ?_
      refine r_imul dX5_readDefault_95 ?_
      refine r_iload_n dX5_readDefault_96 rfl 1 rfl (Or.inl rfl) ?_
      refine r_iadd dX5_readDefault_97 ?_
      refine r_iload_n dX5_readDefault_98 rfl 0 rfl (Or.inl rfl) ?_
      obtain ⟨h99, hg99, hr⟩ := bnd hr
      refine k_SN (host := "FollowingRefs") (as := [(50, q82.2 (q82.2 a0 1) 7), (0, w32 ((w32 (l1 * 4)) + s0)), (0, q82.1)]) (rest := []) (X := (none, h99)) (oX11_put hg99) gX11_put rfl (List.mem_of_getElem? (i := 26) rfl) rfl dX5_readDefault_99 rfl ?_
      refine r_iload_n dX5_readDefault_102 rfl 0 rfl (Or.inl rfl) ?_
      refine r_iconst dX5_readDefault_103 (by decide) ?_
      refine r_icmp_eq dX5_readDefault_104 (tgt := 111) (by decide) (fun hc => ?_) (fun hc => ?_)
      · have hr := ifp hr hc
        refine r_iconst dX5_readDefault_111 (by decide) ?_
        refine r_scast 0 (v := (0, 0)) (w := (2, 0)) rfl cz (fun _ => Or.inl rfl) (st' := [(2, 0)]) rfl ?_
        obtain rfl := Option.some.inj hr
        exact r_ret dX5_readDefault_112 rfl (Or.inr ⟨rfl, rfl⟩) (k0 _ hk) ⟨rfl, rfl⟩
      · have hr := ifn hr hc
        refine r_iconst dX5_readDefault_107 (by decide) ?_
        refine r_goto dX5_readDefault_108 (tgt := 112) (by decide) ?_
        refine r_scast 0 (v := (0, 1)) (w := (2, 1)) rfl cz (fun _ => Or.inr rfl) (st' := [(2, 1)]) rfl ?_
        obtain rfl := Option.some.inj hr
        exact r_ret dX5_readDefault_112 rfl (Or.inr ⟨rfl, rfl⟩) (k0 _ hk) ⟨rfl, rfl⟩
    · have hr := ifn hr hc
      refine r_aload_n dX5_readDefault_62 rfl 1 rfl (nl rfl) ?_
      refine r_get 5 0 (o := a0) (w := (19, h a0 0)) (T := TX5) (ref := "FollowingRefs$SchemaReader") rfl (by decide) rfl (by decide) inlX5 (wsl_5 _ (List.mem_of_getElem? (i := 0) rfl)) rfl dX5_readDefault_63 rfl ?_
      refine r_iconst dX5_readDefault_66 (by decide) ?_
      obtain ⟨q67, hg67, hr⟩ := bnd hr
      refine k_V (ci := 9) (o := h a0 0) (T := TX9) (as := [(0, 3)]) (rest := []) (X := (some (2, q67.1), q67.2)) (oX9_fail hg67) gX9_fail rfl (by decide) rfl (wsl_16 _ (List.mem_of_getElem? (i := 10) rfl)) rfl dX5_readDefault_67 rfl ?_
      obtain rfl := Option.some.inj hr
      exact r_ret dX5_readDefault_70 rfl (Or.inr ⟨rfl, rfl⟩) (k0 _ hk) ⟨rfl, rfl⟩
  · have hr := ifp hr hc
    refine r_iconst dX5_readDefault_47 (by decide) ?_
    refine r_scast 0 (v := (0, 0)) (w := (2, 0)) rfl cz (fun _ => Or.inl rfl) (st' := [(2, 0)]) rfl ?_
    obtain rfl := Option.some.inj hr
    exact r_ret dX5_readDefault_48 rfl (Or.inr ⟨rfl, rfl⟩) (k0 _ hk) ⟨rfl, rfl⟩
set_option maxRecDepth 100000 in
set_option maxHeartbeats 4000000 in
theorem oX5_readDefault_b0 {a0 : Int} {K : Int × hH → Prop} (k0 : ∀ r, K (r) → x = (some (2, r.1), r.2)) {r : Int × hH} (hr : fX5_readDefault h a0 = some r) (hk : K r) : Wq p l e R s m args below meth c D G A H0 true n0 M_X5_readDefault x 0 0 0 [(0, (15, a0))] [] h := by
  unfold fX5_readDefault at hr
  refine r_aload_n dX5_readDefault_0 rfl 0 rfl (nl rfl) ?_
  refine r_get 5 0 (o := a0) (w := (19, h a0 0)) (T := TX5) (ref := "FollowingRefs$SchemaReader") rfl (by decide) rfl (by decide) inlX5 (wsl_5 _ (List.mem_of_getElem? (i := 0) rfl)) rfl dX5_readDefault_1 rfl ?_
  obtain ⟨h4, hg4, hr⟩ := bnd hr
  refine k_V (ci := 9) (o := h a0 0) (T := TX9) (as := []) (rest := []) (X := (none, h4)) (oX9_step hg4) gX9_step rfl (by decide) rfl (wsl_16 _ (List.mem_of_getElem? (i := 19) rfl)) rfl dX5_readDefault_4 rfl ?_
  refine r_aload_n dX5_readDefault_7 rfl 0 rfl (nl rfl) ?_
  refine r_get 5 0 (o := a0) (w := (19, h4 a0 0)) (T := TX5) (ref := "FollowingRefs$SchemaReader") rfl (by decide) rfl (by decide) inlX5 (wsl_5 _ (List.mem_of_getElem? (i := 0) rfl)) rfl dX5_readDefault_8 rfl ?_
  refine r_aload_n dX5_readDefault_11 rfl 0 rfl (nl rfl) ?_
  refine r_get 5 1 (o := a0) (w := (14, h4 a0 1)) (T := TX5) (ref := "FollowingRefs$SchemaReader") rfl (by decide) rfl (by decide) inlX5 (wsl_4 _ (List.mem_of_getElem? (i := 23) rfl)) rfl dX5_readDefault_12 rfl ?_
  obtain ⟨q15, hg15, hr⟩ := bnd hr
  refine k_V (ci := 9) (o := h4 a0 0) (T := TX9) (as := [(14, h4 a0 1)]) (rest := []) (X := (some (0, q15.1), q15.2)) (oX9_takeTable hg15) gX9_takeTable rfl (by decide) rfl (wsl_18 _ (List.mem_of_getElem? (i := 10) rfl)) rfl dX5_readDefault_15 rfl ?_
  refine r_istore_n dX5_readDefault_18 rfl (Or.inl rfl) (by decide) (lv' := [(1, (0, q15.1)), (0, (15, a0))]) rfl ?_
  refine r_iload_n dX5_readDefault_19 rfl 0 rfl (Or.inl rfl) ?_
  refine r_iconst dX5_readDefault_20 (by decide) ?_
  refine r_icmp_ne dX5_readDefault_21 (tgt := 28) (by decide) (fun hc => ?_) (fun hc => ?_)
  · have hr := ifn hr hc
    refine r_aload_n dX5_readDefault_28 rfl 1 rfl (nl rfl) ?_
    refine r_get 5 0 (o := a0) (w := (19, q15.2 a0 0)) (T := TX5) (ref := "FollowingRefs$SchemaReader") rfl (by decide) rfl (by decide) inlX5 (wsl_5 _ (List.mem_of_getElem? (i := 0) rfl)) rfl dX5_readDefault_29 rfl ?_
    refine r_aload_n dX5_readDefault_32 rfl 1 rfl (nl rfl) ?_
    refine r_get 5 1 (o := a0) (w := (14, q15.2 a0 1)) (T := TX5) (ref := "FollowingRefs$SchemaReader") rfl (by decide) rfl (by decide) inlX5 (wsl_4 _ (List.mem_of_getElem? (i := 23) rfl)) rfl dX5_readDefault_33 rfl ?_
    refine r_iload_n dX5_readDefault_36 rfl 0 rfl (Or.inl rfl) ?_
    refine r_iconst dX5_readDefault_37 (by decide) ?_
    obtain ⟨q38, hg38, hr⟩ := bnd hr
    refine k_V (ci := 9) (o := q15.2 a0 0) (T := TX9) (as := [(14, q15.2 a0 1), (0, q15.1), (0, -1)]) (rest := []) (X := (some (0, q38.1), q38.2)) (oX9_colHere hg38) gX9_colHere rfl (by decide) rfl (wsl_19 _ (List.mem_of_getElem? (i := 18) rfl)) rfl dX5_readDefault_38 rfl ?_
    refine r_sub [1, 0] (lv' := [(0, (15, a0)), (1, (0, q15.1))]) rfl ?_
    exact oX5_readDefault_b41 (K := K) (fun r z => k0 r z) hr hk
  · have hr := ifp hr hc
    refine r_iconst dX5_readDefault_24 (by decide) ?_
    refine r_goto dX5_readDefault_25 (tgt := 41) (by decide) ?_
    refine r_sub [1, 0] (lv' := [(0, (15, a0)), (1, (0, q15.1))]) rfl ?_
    exact oX5_readDefault_b41 (K := K) (fun r z => k0 r z) hr hk
end M_X5_readDefault
theorem oX5_readDefault {l : Launch} {D : va_G} {G : gG} {h : hH} {a0 : Int} {r : Int × hH} (hr : fX5_readDefault h a0 = some r) : Ctr l D G true yX5_readDefault M_X5_readDefault [(15, a0)] h (some (2, r.1), r.2) :=
  Ctr_of (by decide) rfl (fun z => by cases z) (nl rfl) (fun {p e R s m args below meth c A H0} => by
    exact oX5_readDefault_b0 (K := fun z9 => z9 = r) (fun r9 z => by rw [z]) hr rfl)
/-! X5_readNeed -/
theorem dX5_readNeed_0 : decode cX5_readNeed 0 = .ok (.aload_n 0, 1) := by decide +kernel
theorem dX5_readNeed_1 : decode cX5_readNeed 1 = .ok (.getfield 18, 3) := by decide +kernel
theorem dX5_readNeed_4 : decode cX5_readNeed 4 = .ok (.invokevirtual 79, 3) := by decide +kernel
theorem dX5_readNeed_7 : decode cX5_readNeed 7 = .ok (.aload_n 0, 1) := by decide +kernel
theorem dX5_readNeed_8 : decode cX5_readNeed 8 = .ok (.getfield 18, 3) := by decide +kernel
theorem dX5_readNeed_11 : decode cX5_readNeed 11 = .ok (.aload_n 0, 1) := by decide +kernel
theorem dX5_readNeed_12 : decode cX5_readNeed 12 = .ok (.getfield 12, 3) := by decide +kernel
theorem dX5_readNeed_15 : decode cX5_readNeed 15 = .ok (.invokevirtual 106, 3) := by decide +kernel
theorem dX5_readNeed_18 : decode cX5_readNeed 18 = .ok (.istore_n 1, 1) := by decide +kernel
theorem dX5_readNeed_19 : decode cX5_readNeed 19 = .ok (.iload_n 1, 1) := by decide +kernel
theorem dX5_readNeed_20 : decode cX5_readNeed 20 = .ok (.iconst (-1), 1) := by decide +kernel
theorem dX5_readNeed_21 : decode cX5_readNeed 21 = .ok (.if_icmp .ne 7, 3) := by decide +kernel
theorem dX5_readNeed_24 : decode cX5_readNeed 24 = .ok (.iconst (-1), 1) := by decide +kernel
theorem dX5_readNeed_25 : decode cX5_readNeed 25 = .ok (.goto 16, 3) := by decide +kernel
theorem dX5_readNeed_28 : decode cX5_readNeed 28 = .ok (.aload_n 0, 1) := by decide +kernel
theorem dX5_readNeed_29 : decode cX5_readNeed 29 = .ok (.getfield 18, 3) := by decide +kernel
theorem dX5_readNeed_32 : decode cX5_readNeed 32 = .ok (.aload_n 0, 1) := by decide +kernel
theorem dX5_readNeed_33 : decode cX5_readNeed 33 = .ok (.getfield 12, 3) := by decide +kernel
theorem dX5_readNeed_36 : decode cX5_readNeed 36 = .ok (.iload_n 1, 1) := by decide +kernel
theorem dX5_readNeed_37 : decode cX5_readNeed 37 = .ok (.iconst (-1), 1) := by decide +kernel
theorem dX5_readNeed_38 : decode cX5_readNeed 38 = .ok (.invokevirtual 149, 3) := by decide +kernel
theorem dX5_readNeed_41 : decode cX5_readNeed 41 = .ok (.istore_n 2, 1) := by decide +kernel
theorem dX5_readNeed_42 : decode cX5_readNeed 42 = .ok (.iload_n 2, 1) := by decide +kernel
theorem dX5_readNeed_43 : decode cX5_readNeed 43 = .ok (.iconst (-1), 1) := by decide +kernel
theorem dX5_readNeed_44 : decode cX5_readNeed 44 = .ok (.if_icmp .ne 5, 3) := by decide +kernel
theorem dX5_readNeed_47 : decode cX5_readNeed 47 = .ok (.iconst 0, 1) := by decide +kernel
theorem dX5_readNeed_48 : decode cX5_readNeed 48 = .ok (.ireturn, 1) := by decide +kernel
theorem dX5_readNeed_49 : decode cX5_readNeed 49 = .ok (.aload_n 0, 1) := by decide +kernel
theorem dX5_readNeed_50 : decode cX5_readNeed 50 = .ok (.getfield 12, 3) := by decide +kernel
theorem dX5_readNeed_53 : decode cX5_readNeed 53 = .ok (.iload_n 1, 1) := by decide +kernel
theorem dX5_readNeed_54 : decode cX5_readNeed 54 = .ok (.iload_n 2, 1) := by decide +kernel
theorem dX5_readNeed_55 : decode cX5_readNeed 55 = .ok (.invokevirtual 166, 3) := by decide +kernel
theorem dX5_readNeed_58 : decode cX5_readNeed 58 = .ok (.ifCond .eq 12, 3) := by decide +kernel
theorem dX5_readNeed_61 : decode cX5_readNeed 61 = .ok (.aload_n 0, 1) := by decide +kernel
theorem dX5_readNeed_62 : decode cX5_readNeed 62 = .ok (.getfield 18, 3) := by decide +kernel
theorem dX5_readNeed_65 : decode cX5_readNeed 65 = .ok (.iconst 3, 1) := by decide +kernel
theorem dX5_readNeed_66 : decode cX5_readNeed 66 = .ok (.invokevirtual 42, 3) := by decide +kernel
theorem dX5_readNeed_69 : decode cX5_readNeed 69 = .ok (.ireturn, 1) := by decide +kernel
theorem dX5_readNeed_70 : decode cX5_readNeed 70 = .ok (.aload_n 0, 1) := by decide +kernel
theorem dX5_readNeed_71 : decode cX5_readNeed 71 = .ok (.getfield 18, 3) := by decide +kernel
theorem dX5_readNeed_74 : decode cX5_readNeed 74 = .ok (.invokevirtual 79, 3) := by decide +kernel
theorem dX5_readNeed_77 : decode cX5_readNeed 77 = .ok (.aload_n 0, 1) := by decide +kernel
theorem dX5_readNeed_78 : decode cX5_readNeed 78 = .ok (.getfield 12, 3) := by decide +kernel
theorem dX5_readNeed_81 : decode cX5_readNeed 81 = .ok (.getfield 170, 3) := by decide +kernel
theorem dX5_readNeed_84 : decode cX5_readNeed 84 = .ok (.iload_n 1, 1) := by decide +kernel
theorem dX5_readNeed_85 : decode cX5_readNeed 85 = .ok (.iconst 4, 1) := by decide +kernel
theorem dX5_readNeed_86 : decode cX5_readNeed 86 = .ok (.imul, 1) := by decide +kernel
theorem dX5_readNeed_87 : decode cX5_readNeed 87 = .ok (.iload_n 2, 1) := by decide +kernel
theorem dX5_readNeed_88 : decode cX5_readNeed 88 = .ok (.iadd, 1) := by decide +kernel
theorem dX5_readNeed_89 : decode cX5_readNeed 89 = .ok (.iconst 1, 1) := by decide +kernel
theorem dX5_readNeed_90 : decode cX5_readNeed 90 = .ok (.invokestatic 142, 3) := by decide +kernel
theorem dX5_readNeed_93 : decode cX5_readNeed 93 = .ok (.iconst 1, 1) := by decide +kernel
theorem dX5_readNeed_94 : decode cX5_readNeed 94 = .ok (.ireturn, 1) := by decide +kernel
abbrev M_X5_readNeed : mM := (cX5_readNeed, 3, RX5, some .boolean, false, 3, 66, 0, 0)
theorem gX5_readNeed : cI yX5_readNeed M_X5_readNeed 0 := ⟨(wsl_21 _ (List.mem_of_getElem? (i := 8) rfl)), (wsl_21 _ (List.mem_of_getElem? (i := 9) rfl)), (wsl_2 _ (List.mem_of_getElem? (i := 7) rfl)), (wsl_21 _ (List.mem_of_getElem? (i := 10) rfl)), by decide +kernel⟩
noncomputable def fX5_readNeed_b41 (h : hH) (a0 l1 s0 : Int) : Option (Int × hH) :=
  if s0 = -1 then
    some (0, h)
  else
    (fX4_needTold h (h a0 1) l1 s0).bind fun r55 =>
    if r55 = 0 then
      (fX9_step h (h a0 0)).bind fun h74 =>
      (fX11_put h74 (h74 (h74 a0 1) 8) (w32 ((w32 (l1 * 4)) + s0)) 1).bind fun h90 =>
      some (1, h90)
    else
      (fX9_fail h (h a0 0) 3).bind fun q66 =>
      some (q66.1, q66.2)
noncomputable def fX5_readNeed (h : hH) (a0 : Int) : Option (Int × hH) :=
  (fX9_step h (h a0 0)).bind fun h4 =>
  (fX9_takeTable h4 (h4 a0 0) (h4 a0 1)).bind fun q15 =>
  if q15.1 = -1 then
    fX5_readNeed_b41 q15.2 a0 q15.1 (-1)
  else
    (fX9_colHere q15.2 (q15.2 a0 0) (q15.2 a0 1) q15.1 (-1)).bind fun q38 =>
    fX5_readNeed_b41 q38.2 a0 q15.1 q38.1
section M_X5_readNeed
variable {p : Program} {l : Launch} {e : Env} {R : Room} {s : State} {m : MethodId} {args : Array Value} {below : List Frame} {meth : Method} {c : Code} {D : va_G} {G : gG} {A : Nat → Prop} {H0 : Heap} {n0 : Int} {x : Option vV × hH} {h : hH}
set_option maxRecDepth 100000 in
set_option maxHeartbeats 4000000 in
theorem oX5_readNeed_b41 {a0 l1 s0 : Int} {K : Int × hH → Prop} (k0 : ∀ r, K (r) → x = (some (2, r.1), r.2)) {r : Int × hH} (hr : fX5_readNeed_b41 h a0 l1 s0 = some r) (hk : K r) : Wq p l e R s m args below meth c D G A H0 true n0 M_X5_readNeed x 0 0 41 [(0, (15, a0)), (1, (0, l1))] [(0, s0)] h := by
  unfold fX5_readNeed_b41 at hr
  refine r_istore_n dX5_readNeed_41 rfl (Or.inl rfl) (by decide) (lv' := [(2, (0, s0)), (0, (15, a0)), (1, (0, l1))]) rfl ?_
  refine r_iload_n dX5_readNeed_42 rfl 0 rfl (Or.inl rfl) ?_
  refine r_iconst dX5_readNeed_43 (by decide) ?_
  refine r_icmp_ne dX5_readNeed_44 (tgt := 49) (by decide) (fun hc => ?_) (fun hc => ?_)
  · have hr := ifn hr hc
    refine r_aload_n dX5_readNeed_49 rfl 1 rfl (nl rfl) ?_
    refine r_get 5 1 (o := a0) (w := (14, h a0 1)) (T := TX5) (ref := "FollowingRefs$SchemaReader") rfl (by decide) rfl (by decide) inlX5 (wsl_4 _ (List.mem_of_getElem? (i := 23) rfl)) rfl dX5_readNeed_50 rfl ?_
    refine r_iload_n dX5_readNeed_53 rfl 2 rfl (Or.inl rfl) ?_
    refine r_iload_n dX5_readNeed_54 rfl 0 rfl (Or.inl rfl) ?_
    obtain ⟨r55, hg55, hr⟩ := bnd hr
    refine k_V (ci := 4) (o := h a0 1) (T := TX4) (as := [(0, l1), (0, s0)]) (rest := []) (X := (some (2, r55), h)) (oX4_needTold hg55) gX4_needTold rfl (by decide) rfl (wsl_21 _ (List.mem_of_getElem? (i := 12) rfl)) rfl dX5_readNeed_55 rfl ?_
    refine r_scast 0 (v := (2, r55)) (w := (0, r55)) rfl zc hTz (st' := [(0, r55)]) rfl ?_
    refine r_if_eq dX5_readNeed_58 (tgt := 70) (by decide) (fun hc => ?_) (fun hc => ?_)
    · have hr := ifp hr hc
      refine r_aload_n dX5_readNeed_70 rfl 1 rfl (nl rfl) ?_
      refine r_get 5 0 (o := a0) (w := (19, h a0 0)) (T := TX5) (ref := "FollowingRefs$SchemaReader") rfl (by decide) rfl (by decide) inlX5 (wsl_5 _ (List.mem_of_getElem? (i := 0) rfl)) rfl dX5_readNeed_71 rfl ?_
      obtain ⟨h74, hg74, hr⟩ := bnd hr
      refine k_V (ci := 9) (o := h a0 0) (T := TX9) (as := []) (rest := []) (X := (none, h74)) (oX9_step hg74) gX9_step rfl (by decide) rfl (wsl_16 _ (List.mem_of_getElem? (i := 19) rfl)) rfl dX5_readNeed_74 rfl ?_
      refine r_aload_n dX5_readNeed_77 rfl 1 rfl (nl rfl) ?_
      refine r_get 5 1 (o := a0) (w := (14, h74 a0 1)) (T := TX5) (ref := "FollowingRefs$SchemaReader") rfl (by decide) rfl (by decide) inlX5 (wsl_4 _ (List.mem_of_getElem? (i := 23) rfl)) rfl dX5_readNeed_78 rfl ?_
      refine r_get 4 8 (o := h74 a0 1) (w := (50, h74 (h74 a0 1) 8)) (T := TX4) (ref := "FollowingRefs$Schema") rfl (by decide) rfl (by decide) inlX4 (wsl_21 _ (List.mem_of_getElem? (i := 11) rfl)) rfl dX5_readNeed_81 rfl ?_
      refine r_iload_n dX5_readNeed_84 rfl 2 rfl (Or.inl rfl) ?_
      refine r_iconst dX5_readNeed_85 (by decide) ?_
      refine r_imul dX5_readNeed_86 ?_
      refine r_iload_n dX5_readNeed_87 rfl 0 rfl (Or.inl rfl) ?_
      refine r_iadd dX5_readNeed_88 ?_
      refine r_iconst dX5_readNeed_89 (by decide) ?_
      obtain ⟨h90, hg90, hr⟩ := bnd hr
      refine k_SN (host := "FollowingRefs") (as := [(50, h74 (h74 a0 1) 8), (0, w32 ((w32 (l1 * 4)) + s0)), (0, 1)]) (rest := []) (X := (none, h90)) (oX11_put hg90) gX11_put rfl (List.mem_of_getElem? (i := 26) rfl) rfl dX5_readNeed_90 rfl ?_
      refine r_iconst dX5_readNeed_93 (by decide) ?_
      refine r_scast 0 (v := (0, 1)) (w := (2, 1)) rfl cz (fun _ => Or.inr rfl) (st' := [(2, 1)]) rfl ?_
      obtain rfl := Option.some.inj hr
      exact r_ret dX5_readNeed_94 rfl (Or.inr ⟨rfl, rfl⟩) (k0 _ hk) ⟨rfl, rfl⟩
    · have hr := ifn hr hc
      refine r_aload_n dX5_readNeed_61 rfl 1 rfl (nl rfl) ?_
      refine r_get 5 0 (o := a0) (w := (19, h a0 0)) (T := TX5) (ref := "FollowingRefs$SchemaReader") rfl (by decide) rfl (by decide) inlX5 (wsl_5 _ (List.mem_of_getElem? (i := 0) rfl)) rfl dX5_readNeed_62 rfl ?_
      refine r_iconst dX5_readNeed_65 (by decide) ?_
      obtain ⟨q66, hg66, hr⟩ := bnd hr
      refine k_V (ci := 9) (o := h a0 0) (T := TX9) (as := [(0, 3)]) (rest := []) (X := (some (2, q66.1), q66.2)) (oX9_fail hg66) gX9_fail rfl (by decide) rfl (wsl_16 _ (List.mem_of_getElem? (i := 10) rfl)) rfl dX5_readNeed_66 rfl ?_
      obtain rfl := Option.some.inj hr
      exact r_ret dX5_readNeed_69 rfl (Or.inr ⟨rfl, rfl⟩) (k0 _ hk) ⟨rfl, rfl⟩
  · have hr := ifp hr hc
    refine r_iconst dX5_readNeed_47 (by decide) ?_
    refine r_scast 0 (v := (0, 0)) (w := (2, 0)) rfl cz (fun _ => Or.inl rfl) (st' := [(2, 0)]) rfl ?_
    obtain rfl := Option.some.inj hr
    exact r_ret dX5_readNeed_48 rfl (Or.inr ⟨rfl, rfl⟩) (k0 _ hk) ⟨rfl, rfl⟩
set_option maxRecDepth 100000 in
set_option maxHeartbeats 4000000 in
theorem oX5_readNeed_b0 {a0 : Int} {K : Int × hH → Prop} (k0 : ∀ r, K (r) → x = (some (2, r.1), r.2)) {r : Int × hH} (hr : fX5_readNeed h a0 = some r) (hk : K r) : Wq p l e R s m args below meth c D G A H0 true n0 M_X5_readNeed x 0 0 0 [(0, (15, a0))] [] h := by
  unfold fX5_readNeed at hr
  refine r_aload_n dX5_readNeed_0 rfl 0 rfl (nl rfl) ?_
  refine r_get 5 0 (o := a0) (w := (19, h a0 0)) (T := TX5) (ref := "FollowingRefs$SchemaReader") rfl (by decide) rfl (by decide) inlX5 (wsl_5 _ (List.mem_of_getElem? (i := 0) rfl)) rfl dX5_readNeed_1 rfl ?_
  obtain ⟨h4, hg4, hr⟩ := bnd hr
  refine k_V (ci := 9) (o := h a0 0) (T := TX9) (as := []) (rest := []) (X := (none, h4)) (oX9_step hg4) gX9_step rfl (by decide) rfl (wsl_16 _ (List.mem_of_getElem? (i := 19) rfl)) rfl dX5_readNeed_4 rfl ?_
  refine r_aload_n dX5_readNeed_7 rfl 0 rfl (nl rfl) ?_
  refine r_get 5 0 (o := a0) (w := (19, h4 a0 0)) (T := TX5) (ref := "FollowingRefs$SchemaReader") rfl (by decide) rfl (by decide) inlX5 (wsl_5 _ (List.mem_of_getElem? (i := 0) rfl)) rfl dX5_readNeed_8 rfl ?_
  refine r_aload_n dX5_readNeed_11 rfl 0 rfl (nl rfl) ?_
  refine r_get 5 1 (o := a0) (w := (14, h4 a0 1)) (T := TX5) (ref := "FollowingRefs$SchemaReader") rfl (by decide) rfl (by decide) inlX5 (wsl_4 _ (List.mem_of_getElem? (i := 23) rfl)) rfl dX5_readNeed_12 rfl ?_
  obtain ⟨q15, hg15, hr⟩ := bnd hr
  refine k_V (ci := 9) (o := h4 a0 0) (T := TX9) (as := [(14, h4 a0 1)]) (rest := []) (X := (some (0, q15.1), q15.2)) (oX9_takeTable hg15) gX9_takeTable rfl (by decide) rfl (wsl_18 _ (List.mem_of_getElem? (i := 10) rfl)) rfl dX5_readNeed_15 rfl ?_
  refine r_istore_n dX5_readNeed_18 rfl (Or.inl rfl) (by decide) (lv' := [(1, (0, q15.1)), (0, (15, a0))]) rfl ?_
  refine r_iload_n dX5_readNeed_19 rfl 0 rfl (Or.inl rfl) ?_
  refine r_iconst dX5_readNeed_20 (by decide) ?_
  refine r_icmp_ne dX5_readNeed_21 (tgt := 28) (by decide) (fun hc => ?_) (fun hc => ?_)
  · have hr := ifn hr hc
    refine r_aload_n dX5_readNeed_28 rfl 1 rfl (nl rfl) ?_
    refine r_get 5 0 (o := a0) (w := (19, q15.2 a0 0)) (T := TX5) (ref := "FollowingRefs$SchemaReader") rfl (by decide) rfl (by decide) inlX5 (wsl_5 _ (List.mem_of_getElem? (i := 0) rfl)) rfl dX5_readNeed_29 rfl ?_
    refine r_aload_n dX5_readNeed_32 rfl 1 rfl (nl rfl) ?_
    refine r_get 5 1 (o := a0) (w := (14, q15.2 a0 1)) (T := TX5) (ref := "FollowingRefs$SchemaReader") rfl (by decide) rfl (by decide) inlX5 (wsl_4 _ (List.mem_of_getElem? (i := 23) rfl)) rfl dX5_readNeed_33 rfl ?_
    refine r_iload_n dX5_readNeed_36 rfl 0 rfl (Or.inl rfl) ?_
    refine r_iconst dX5_readNeed_37 (by decide) ?_
    obtain ⟨q38, hg38, hr⟩ := bnd hr
    refine k_V (ci := 9) (o := q15.2 a0 0) (T := TX9) (as := [(14, q15.2 a0 1), (0, q15.1), (0, -1)]) (rest := []) (X := (some (0, q38.1), q38.2)) (oX9_colHere hg38) gX9_colHere rfl (by decide) rfl (wsl_19 _ (List.mem_of_getElem? (i := 18) rfl)) rfl dX5_readNeed_38 rfl ?_
    refine r_sub [1, 0] (lv' := [(0, (15, a0)), (1, (0, q15.1))]) rfl ?_
    exact oX5_readNeed_b41 (K := K) (fun r z => k0 r z) hr hk
  · have hr := ifp hr hc
    refine r_iconst dX5_readNeed_24 (by decide) ?_
    refine r_goto dX5_readNeed_25 (tgt := 41) (by decide) ?_
    refine r_sub [1, 0] (lv' := [(0, (15, a0)), (1, (0, q15.1))]) rfl ?_
    exact oX5_readNeed_b41 (K := K) (fun r z => k0 r z) hr hk
end M_X5_readNeed
theorem oX5_readNeed {l : Launch} {D : va_G} {G : gG} {h : hH} {a0 : Int} {r : Int × hH} (hr : fX5_readNeed h a0 = some r) : Ctr l D G true yX5_readNeed M_X5_readNeed [(15, a0)] h (some (2, r.1), r.2) :=
  Ctr_of (by decide) rfl (fun z => by cases z) (nl rfl) (fun {p e R s m args below meth c A H0} => by
    exact oX5_readNeed_b0 (K := fun z9 => z9 = r) (fun r9 z => by rw [z]) hr rfl)
/-! X5_readCheck -/
theorem dX5_readCheck_0 : decode cX5_readCheck 0 = .ok (.aload_n 0, 1) := by decide +kernel
theorem dX5_readCheck_1 : decode cX5_readCheck 1 = .ok (.getfield 18, 3) := by decide +kernel
theorem dX5_readCheck_4 : decode cX5_readCheck 4 = .ok (.invokevirtual 79, 3) := by decide +kernel
theorem dX5_readCheck_7 : decode cX5_readCheck 7 = .ok (.aload_n 0, 1) := by decide +kernel
theorem dX5_readCheck_8 : decode cX5_readCheck 8 = .ok (.getfield 12, 3) := by decide +kernel
theorem dX5_readCheck_11 : decode cX5_readCheck 11 = .ok (.getfield 76, 3) := by decide +kernel
theorem dX5_readCheck_14 : decode cX5_readCheck 14 = .ok (.bipush 6, 2) := by decide +kernel
theorem dX5_readCheck_16 : decode cX5_readCheck 16 = .ok (.imul, 1) := by decide +kernel
theorem dX5_readCheck_17 : decode cX5_readCheck 17 = .ok (.istore_n 1, 1) := by decide +kernel
theorem dX5_readCheck_18 : decode cX5_readCheck 18 = .ok (.aload_n 0, 1) := by decide +kernel
theorem dX5_readCheck_19 : decode cX5_readCheck 19 = .ok (.getfield 18, 3) := by decide +kernel
theorem dX5_readCheck_22 : decode cX5_readCheck 22 = .ok (.aload_n 0, 1) := by decide +kernel
theorem dX5_readCheck_23 : decode cX5_readCheck 23 = .ok (.getfield 12, 3) := by decide +kernel
theorem dX5_readCheck_26 : decode cX5_readCheck 26 = .ok (.invokevirtual 106, 3) := by decide +kernel
theorem dX5_readCheck_29 : decode cX5_readCheck 29 = .ok (.istore_n 2, 1) := by decide +kernel
theorem dX5_readCheck_30 : decode cX5_readCheck 30 = .ok (.iload_n 2, 1) := by decide +kernel
theorem dX5_readCheck_31 : decode cX5_readCheck 31 = .ok (.iconst (-1), 1) := by decide +kernel
theorem dX5_readCheck_32 : decode cX5_readCheck 32 = .ok (.if_icmp .ne 7, 3) := by decide +kernel
theorem dX5_readCheck_35 : decode cX5_readCheck 35 = .ok (.iconst (-1), 1) := by decide +kernel
theorem dX5_readCheck_36 : decode cX5_readCheck 36 = .ok (.goto 16, 3) := by decide +kernel
theorem dX5_readCheck_39 : decode cX5_readCheck 39 = .ok (.aload_n 0, 1) := by decide +kernel
theorem dX5_readCheck_40 : decode cX5_readCheck 40 = .ok (.getfield 18, 3) := by decide +kernel
theorem dX5_readCheck_43 : decode cX5_readCheck 43 = .ok (.aload_n 0, 1) := by decide +kernel
theorem dX5_readCheck_44 : decode cX5_readCheck 44 = .ok (.getfield 12, 3) := by decide +kernel
theorem dX5_readCheck_47 : decode cX5_readCheck 47 = .ok (.iload_n 2, 1) := by decide +kernel
theorem dX5_readCheck_48 : decode cX5_readCheck 48 = .ok (.iconst (-1), 1) := by decide +kernel
theorem dX5_readCheck_49 : decode cX5_readCheck 49 = .ok (.invokevirtual 113, 3) := by decide +kernel
theorem dX5_readCheck_52 : decode cX5_readCheck 52 = .ok (.istore_n 3, 1) := by decide +kernel
theorem dX5_readCheck_53 : decode cX5_readCheck 53 = .ok (.iload_n 3, 1) := by decide +kernel
theorem dX5_readCheck_54 : decode cX5_readCheck 54 = .ok (.iconst (-1), 1) := by decide +kernel
theorem dX5_readCheck_55 : decode cX5_readCheck 55 = .ok (.if_icmp .ne 7, 3) := by decide +kernel
theorem dX5_readCheck_58 : decode cX5_readCheck 58 = .ok (.iconst (-1), 1) := by decide +kernel
theorem dX5_readCheck_59 : decode cX5_readCheck 59 = .ok (.goto 10, 3) := by decide +kernel
theorem dX5_readCheck_62 : decode cX5_readCheck 62 = .ok (.aload_n 0, 1) := by decide +kernel
theorem dX5_readCheck_63 : decode cX5_readCheck 63 = .ok (.getfield 18, 3) := by decide +kernel
theorem dX5_readCheck_66 : decode cX5_readCheck 66 = .ok (.invokevirtual 173, 3) := by decide +kernel
theorem dX5_readCheck_69 : decode cX5_readCheck 69 = .ok (.istore 4, 2) := by decide +kernel
theorem dX5_readCheck_71 : decode cX5_readCheck 71 = .ok (.iload 4, 2) := by decide +kernel
theorem dX5_readCheck_73 : decode cX5_readCheck 73 = .ok (.iconst (-1), 1) := by decide +kernel
theorem dX5_readCheck_74 : decode cX5_readCheck 74 = .ok (.if_icmp .ne 5, 3) := by decide +kernel
theorem dX5_readCheck_77 : decode cX5_readCheck 77 = .ok (.iconst 0, 1) := by decide +kernel
theorem dX5_readCheck_78 : decode cX5_readCheck 78 = .ok (.ireturn, 1) := by decide +kernel
theorem dX5_readCheck_79 : decode cX5_readCheck 79 = .ok (.aload_n 0, 1) := by decide +kernel
theorem dX5_readCheck_80 : decode cX5_readCheck 80 = .ok (.getfield 18, 3) := by decide +kernel
theorem dX5_readCheck_83 : decode cX5_readCheck 83 = .ok (.getfield 35, 3) := by decide +kernel
theorem dX5_readCheck_86 : decode cX5_readCheck 86 = .ok (.iconst 4, 1) := by decide +kernel
theorem dX5_readCheck_87 : decode cX5_readCheck 87 = .ok (.if_icmp .ne 7, 3) := by decide +kernel
theorem dX5_readCheck_90 : decode cX5_readCheck 90 = .ok (.iconst 1, 1) := by decide +kernel
theorem dX5_readCheck_91 : decode cX5_readCheck 91 = .ok (.goto 4, 3) := by decide +kernel
theorem dX5_readCheck_94 : decode cX5_readCheck 94 = .ok (.iconst 0, 1) := by decide +kernel
theorem dX5_readCheck_95 : decode cX5_readCheck 95 = .ok (.istore 5, 2) := by decide +kernel
theorem dX5_readCheck_97 : decode cX5_readCheck 97 = .ok (.iload 5, 2) := by decide +kernel
theorem dX5_readCheck_99 : decode cX5_readCheck 99 = .ok (.ifCond .eq 19, 3) := by decide +kernel
theorem dX5_readCheck_102 : decode cX5_readCheck 102 = .ok (.aload_n 0, 1) := by decide +kernel
theorem dX5_readCheck_103 : decode cX5_readCheck 103 = .ok (.getfield 18, 3) := by decide +kernel
theorem dX5_readCheck_106 : decode cX5_readCheck 106 = .ok (.aload_n 0, 1) := by decide +kernel
theorem dX5_readCheck_107 : decode cX5_readCheck 107 = .ok (.getfield 12, 3) := by decide +kernel
theorem dX5_readCheck_110 : decode cX5_readCheck 110 = .ok (.iload_n 2, 1) := by decide +kernel
theorem dX5_readCheck_111 : decode cX5_readCheck 111 = .ok (.iload_n 3, 1) := by decide +kernel
theorem dX5_readCheck_112 : decode cX5_readCheck 112 = .ok (.invokevirtual 113, 3) := by decide +kernel
theorem dX5_readCheck_115 : decode cX5_readCheck 115 = .ok (.goto 10, 3) := by decide +kernel
theorem dX5_readCheck_118 : decode cX5_readCheck 118 = .ok (.aload_n 0, 1) := by decide +kernel
theorem dX5_readCheck_119 : decode cX5_readCheck 119 = .ok (.getfield 18, 3) := by decide +kernel
theorem dX5_readCheck_122 : decode cX5_readCheck 122 = .ok (.invokevirtual 160, 3) := by decide +kernel
theorem dX5_readCheck_125 : decode cX5_readCheck 125 = .ok (.istore 6, 2) := by decide +kernel
theorem dX5_readCheck_127 : decode cX5_readCheck 127 = .ok (.iload 6, 2) := by decide +kernel
theorem dX5_readCheck_129 : decode cX5_readCheck 129 = .ok (.iconst (-1), 1) := by decide +kernel
theorem dX5_readCheck_130 : decode cX5_readCheck 130 = .ok (.if_icmp .ne 5, 3) := by decide +kernel
theorem dX5_readCheck_133 : decode cX5_readCheck 133 = .ok (.iconst 0, 1) := by decide +kernel
theorem dX5_readCheck_134 : decode cX5_readCheck 134 = .ok (.ireturn, 1) := by decide +kernel
theorem dX5_readCheck_135 : decode cX5_readCheck 135 = .ok (.aload_n 0, 1) := by decide +kernel
theorem dX5_readCheck_136 : decode cX5_readCheck 136 = .ok (.getfield 12, 3) := by decide +kernel
theorem dX5_readCheck_139 : decode cX5_readCheck 139 = .ok (.getfield 176, 3) := by decide +kernel
theorem dX5_readCheck_142 : decode cX5_readCheck 142 = .ok (.iload_n 1, 1) := by decide +kernel
theorem dX5_readCheck_143 : decode cX5_readCheck 143 = .ok (.iconst 0, 1) := by decide +kernel
theorem dX5_readCheck_144 : decode cX5_readCheck 144 = .ok (.iadd, 1) := by decide +kernel
theorem dX5_readCheck_145 : decode cX5_readCheck 145 = .ok (.iload_n 2, 1) := by decide +kernel
theorem dX5_readCheck_146 : decode cX5_readCheck 146 = .ok (.invokestatic 142, 3) := by decide +kernel
theorem dX5_readCheck_149 : decode cX5_readCheck 149 = .ok (.aload_n 0, 1) := by decide +kernel
theorem dX5_readCheck_150 : decode cX5_readCheck 150 = .ok (.getfield 12, 3) := by decide +kernel
theorem dX5_readCheck_153 : decode cX5_readCheck 153 = .ok (.getfield 176, 3) := by decide +kernel
theorem dX5_readCheck_156 : decode cX5_readCheck 156 = .ok (.iload_n 1, 1) := by decide +kernel
theorem dX5_readCheck_157 : decode cX5_readCheck 157 = .ok (.iconst 1, 1) := by decide +kernel
theorem dX5_readCheck_158 : decode cX5_readCheck 158 = .ok (.iadd, 1) := by decide +kernel
theorem dX5_readCheck_159 : decode cX5_readCheck 159 = .ok (.iload_n 3, 1) := by decide +kernel
theorem dX5_readCheck_160 : decode cX5_readCheck 160 = .ok (.invokestatic 142, 3) := by decide +kernel
theorem dX5_readCheck_163 : decode cX5_readCheck 163 = .ok (.aload_n 0, 1) := by decide +kernel
theorem dX5_readCheck_164 : decode cX5_readCheck 164 = .ok (.getfield 12, 3) := by decide +kernel
theorem dX5_readCheck_167 : decode cX5_readCheck 167 = .ok (.getfield 176, 3) := by decide +kernel
theorem dX5_readCheck_170 : decode cX5_readCheck 170 = .ok (.iload_n 1, 1) := by decide +kernel
theorem dX5_readCheck_171 : decode cX5_readCheck 171 = .ok (.iconst 2, 1) := by decide +kernel
theorem dX5_readCheck_172 : decode cX5_readCheck 172 = .ok (.iadd, 1) := by decide +kernel
theorem dX5_readCheck_173 : decode cX5_readCheck 173 = .ok (.iload 4, 2) := by decide +kernel
theorem dX5_readCheck_175 : decode cX5_readCheck 175 = .ok (.invokestatic 142, 3) := by decide +kernel
theorem dX5_readCheck_178 : decode cX5_readCheck 178 = .ok (.aload_n 0, 1) := by decide +kernel
theorem dX5_readCheck_179 : decode cX5_readCheck 179 = .ok (.getfield 12, 3) := by decide +kernel
theorem dX5_readCheck_182 : decode cX5_readCheck 182 = .ok (.getfield 176, 3) := by decide +kernel
theorem dX5_readCheck_185 : decode cX5_readCheck 185 = .ok (.iload_n 1, 1) := by decide +kernel
theorem dX5_readCheck_186 : decode cX5_readCheck 186 = .ok (.iconst 3, 1) := by decide +kernel
theorem dX5_readCheck_187 : decode cX5_readCheck 187 = .ok (.iadd, 1) := by decide +kernel
theorem dX5_readCheck_188 : decode cX5_readCheck 188 = .ok (.iload 5, 2) := by decide +kernel
theorem dX5_readCheck_190 : decode cX5_readCheck 190 = .ok (.ifCond .eq 8, 3) := by decide +kernel
theorem dX5_readCheck_193 : decode cX5_readCheck 193 = .ok (.iload 6, 2) := by decide +kernel
theorem dX5_readCheck_195 : decode cX5_readCheck 195 = .ok (.goto 4, 3) := by decide +kernel
theorem dX5_readCheck_198 : decode cX5_readCheck 198 = .ok (.iconst (-1), 1) := by decide +kernel
theorem dX5_readCheck_199 : decode cX5_readCheck 199 = .ok (.invokestatic 142, 3) := by decide +kernel
theorem dX5_readCheck_202 : decode cX5_readCheck 202 = .ok (.aload_n 0, 1) := by decide +kernel
theorem dX5_readCheck_203 : decode cX5_readCheck 203 = .ok (.getfield 12, 3) := by decide +kernel
theorem dX5_readCheck_206 : decode cX5_readCheck 206 = .ok (.getfield 176, 3) := by decide +kernel
theorem dX5_readCheck_209 : decode cX5_readCheck 209 = .ok (.iload_n 1, 1) := by decide +kernel
theorem dX5_readCheck_210 : decode cX5_readCheck 210 = .ok (.iconst 4, 1) := by decide +kernel
theorem dX5_readCheck_211 : decode cX5_readCheck 211 = .ok (.iadd, 1) := by decide +kernel
theorem dX5_readCheck_212 : decode cX5_readCheck 212 = .ok (.iload 5, 2) := by decide +kernel
theorem dX5_readCheck_214 : decode cX5_readCheck 214 = .ok (.ifCond .eq 7, 3) := by decide +kernel
theorem dX5_readCheck_217 : decode cX5_readCheck 217 = .ok (.iconst (-1), 1) := by decide +kernel
theorem dX5_readCheck_218 : decode cX5_readCheck 218 = .ok (.goto 5, 3) := by decide +kernel
theorem dX5_readCheck_221 : decode cX5_readCheck 221 = .ok (.iload 6, 2) := by decide +kernel
theorem dX5_readCheck_223 : decode cX5_readCheck 223 = .ok (.invokestatic 142, 3) := by decide +kernel
theorem dX5_readCheck_226 : decode cX5_readCheck 226 = .ok (.aload_n 0, 1) := by decide +kernel
theorem dX5_readCheck_227 : decode cX5_readCheck 227 = .ok (.getfield 12, 3) := by decide +kernel
theorem dX5_readCheck_230 : decode cX5_readCheck 230 = .ok (.getfield 176, 3) := by decide +kernel
theorem dX5_readCheck_233 : decode cX5_readCheck 233 = .ok (.iload_n 1, 1) := by decide +kernel
theorem dX5_readCheck_234 : decode cX5_readCheck 234 = .ok (.iconst 5, 1) := by decide +kernel
theorem dX5_readCheck_235 : decode cX5_readCheck 235 = .ok (.iadd, 1) := by decide +kernel
theorem dX5_readCheck_236 : decode cX5_readCheck 236 = .ok (.aload_n 0, 1) := by decide +kernel
theorem dX5_readCheck_237 : decode cX5_readCheck 237 = .ok (.getfield 18, 3) := by decide +kernel
theorem dX5_readCheck_240 : decode cX5_readCheck 240 = .ok (.sipush 137, 3) := by decide +kernel
theorem dX5_readCheck_243 : decode cX5_readCheck 243 = .ok (.invokevirtual 146, 3) := by decide +kernel
theorem dX5_readCheck_246 : decode cX5_readCheck 246 = .ok (.ifCond .eq 7, 3) := by decide +kernel
theorem dX5_readCheck_249 : decode cX5_readCheck 249 = .ok (.iconst 1, 1) := by decide +kernel
theorem dX5_readCheck_250 : decode cX5_readCheck 250 = .ok (.goto 4, 3) := by decide +kernel
theorem dX5_readCheck_253 : decode cX5_readCheck 253 = .ok (.iconst 0, 1) := by decide +kernel
theorem dX5_readCheck_254 : decode cX5_readCheck 254 = .ok (.invokestatic 142, 3) := by decide +kernel
theorem dX5_readCheck_257 : decode cX5_readCheck 257 = .ok (.aload_n 0, 1) := by decide +kernel
theorem dX5_readCheck_258 : decode cX5_readCheck 258 = .ok (.getfield 12, 3) := by decide +kernel
theorem dX5_readCheck_261 : decode cX5_readCheck 261 = .ok (.dup, 1) := by decide +kernel
theorem dX5_readCheck_262 : decode cX5_readCheck 262 = .ok (.getfield 76, 3) := by decide +kernel
theorem dX5_readCheck_265 : decode cX5_readCheck 265 = .ok (.iconst 1, 1) := by decide +kernel
theorem dX5_readCheck_266 : decode cX5_readCheck 266 = .ok (.iadd, 1) := by decide +kernel
theorem dX5_readCheck_267 : decode cX5_readCheck 267 = .ok (.putfield 76, 3) := by decide +kernel
theorem dX5_readCheck_270 : decode cX5_readCheck 270 = .ok (.iconst 1, 1) := by decide +kernel
theorem dX5_readCheck_271 : decode cX5_readCheck 271 = .ok (.ireturn, 1) := by decide +kernel
abbrev M_X5_readCheck : mM := (cX5_readCheck, 7, RX5, some .boolean, false, 3, 74, 0, 0)
theorem gX5_readCheck : cI yX5_readCheck M_X5_readCheck 0 := ⟨(wsl_21 _ (List.mem_of_getElem? (i := 17) rfl)), (wsl_21 _ (List.mem_of_getElem? (i := 18) rfl)), (wsl_2 _ (List.mem_of_getElem? (i := 7) rfl)), (wsl_21 _ (List.mem_of_getElem? (i := 19) rfl)), by decide +kernel⟩
noncomputable def fX5_readCheck_b254 (h : hH) (a0 s0 s1 s2 : Int) : Option (Int × hH) :=
  (fX11_put h s2 s1 s0).bind fun h254 =>
  (pput h254 (h254 a0 1) 3 (w32 ((h254 (h254 a0 1) 3) + 1))).bind fun h267 =>
  some (1, h267)
noncomputable def fX5_readCheck_b223 (h : hH) (a0 l1 s0 s1 s2 : Int) : Option (Int × hH) :=
  (fX11_put h s2 s1 s0).bind fun h223 =>
  (fX9_option h223 (h223 a0 0) 137).bind fun q243 =>
  if q243.1 = 0 then
    fX5_readCheck_b254 q243.2 a0 0 (w32 (l1 + 5)) (h223 (h223 a0 1) 11)
  else
    fX5_readCheck_b254 q243.2 a0 1 (w32 (l1 + 5)) (h223 (h223 a0 1) 11)
noncomputable def fX5_readCheck_b199 (h : hH) (a0 l1 l5 l6 s0 s1 s2 : Int) : Option (Int × hH) :=
  (fX11_put h s2 s1 s0).bind fun h199 =>
  if l5 = 0 then
    fX5_readCheck_b223 h199 a0 l1 l6 (w32 (l1 + 4)) (h199 (h199 a0 1) 11)
  else
    fX5_readCheck_b223 h199 a0 l1 (-1) (w32 (l1 + 4)) (h199 (h199 a0 1) 11)
noncomputable def fX5_readCheck_b125 (h : hH) (a0 l1 l2 l3 l4 l5 s0 : Int) : Option (Int × hH) :=
  if s0 = -1 then
    some (0, h)
  else
    (fX11_put h (h (h a0 1) 11) (w32 (l1 + 0)) l2).bind fun h146 =>
    (fX11_put h146 (h146 (h146 a0 1) 11) (w32 (l1 + 1)) l3).bind fun h160 =>
    (fX11_put h160 (h160 (h160 a0 1) 11) (w32 (l1 + 2)) l4).bind fun h175 =>
    if l5 = 0 then
      fX5_readCheck_b199 h175 a0 l1 l5 s0 (-1) (w32 (l1 + 3)) (h175 (h175 a0 1) 11)
    else
      fX5_readCheck_b199 h175 a0 l1 l5 s0 s0 (w32 (l1 + 3)) (h175 (h175 a0 1) 11)
noncomputable def fX5_readCheck_b95 (h : hH) (a0 l1 l2 l3 l4 s0 : Int) : Option (Int × hH) :=
  if s0 = 0 then
    (fX9_takeNumber h (h a0 0)).bind fun q122 =>
    fX5_readCheck_b125 q122.2 a0 l1 l2 l3 l4 s0 q122.1
  else
    (fX9_takeCol h (h a0 0) (h a0 1) l2 l3).bind fun q112 =>
    fX5_readCheck_b125 q112.2 a0 l1 l2 l3 l4 s0 q112.1
noncomputable def fX5_readCheck_b69 (h : hH) (a0 l1 l2 l3 s0 : Int) : Option (Int × hH) :=
  if s0 = -1 then
    some (0, h)
  else
    if h (h a0 0) 5 = 4 then
      fX5_readCheck_b95 h a0 l1 l2 l3 s0 1
    else
      fX5_readCheck_b95 h a0 l1 l2 l3 s0 0
noncomputable def fX5_readCheck_b52 (h : hH) (a0 l1 l2 s0 : Int) : Option (Int × hH) :=
  if s0 = -1 then
    fX5_readCheck_b69 h a0 l1 l2 s0 (-1)
  else
    (fX9_takeComparison h (h a0 0)).bind fun q66 =>
    fX5_readCheck_b69 q66.2 a0 l1 l2 s0 q66.1
noncomputable def fX5_readCheck (h : hH) (a0 : Int) : Option (Int × hH) :=
  (fX9_step h (h a0 0)).bind fun h4 =>
  (fX9_takeTable h4 (h4 a0 0) (h4 a0 1)).bind fun q26 =>
  if q26.1 = -1 then
    fX5_readCheck_b52 q26.2 a0 (w32 ((h4 (h4 a0 1) 3) * 6)) q26.1 (-1)
  else
    (fX9_takeCol q26.2 (q26.2 a0 0) (q26.2 a0 1) q26.1 (-1)).bind fun q49 =>
    fX5_readCheck_b52 q49.2 a0 (w32 ((h4 (h4 a0 1) 3) * 6)) q26.1 q49.1
section M_X5_readCheck
variable {p : Program} {l : Launch} {e : Env} {R : Room} {s : State} {m : MethodId} {args : Array Value} {below : List Frame} {meth : Method} {c : Code} {D : va_G} {G : gG} {A : Nat → Prop} {H0 : Heap} {n0 : Int} {x : Option vV × hH} {h : hH}
set_option maxRecDepth 100000 in
set_option maxHeartbeats 4000000 in
theorem oX5_readCheck_b254 {a0 s0 s1 s2 : Int} {K : Int × hH → Prop} (k0 : ∀ r, K (r) → x = (some (2, r.1), r.2)) {r : Int × hH} (hr : fX5_readCheck_b254 h a0 s0 s1 s2 = some r) (hk : K r) : Wq p l e R s m args below meth c D G A H0 true n0 M_X5_readCheck x 0 0 254 [(0, (15, a0))] [(2, s0), (0, s1), (50, s2)] h := by
  unfold fX5_readCheck_b254 at hr
  refine r_scast 0 (v := (2, s0)) (w := (0, s0)) rfl zc hTz (st' := [(0, s0), (0, s1), (50, s2)]) rfl ?_
  obtain ⟨h254, hg254, hr⟩ := bnd hr
  refine k_SN (host := "FollowingRefs") (as := [(50, s2), (0, s1), (0, s0)]) (rest := []) (X := (none, h254)) (oX11_put hg254) gX11_put rfl (List.mem_of_getElem? (i := 26) rfl) rfl dX5_readCheck_254 rfl ?_
  refine r_aload_n dX5_readCheck_257 rfl 0 rfl (nl rfl) ?_
  refine r_get 5 1 (o := a0) (w := (14, h254 a0 1)) (T := TX5) (ref := "FollowingRefs$SchemaReader") rfl (by decide) rfl (by decide) inlX5 (wsl_4 _ (List.mem_of_getElem? (i := 23) rfl)) rfl dX5_readCheck_258 rfl ?_
  refine r_dup dX5_readCheck_261 (Nat.ne_of_beq_eq_false rfl) ?_
  refine r_get 4 3 (o := h254 a0 1) (w := (0, h254 (h254 a0 1) 3)) (T := TX4) (ref := "FollowingRefs$Schema") rfl (by decide) rfl (by decide) inlX4 (wsl_16 _ (List.mem_of_getElem? (i := 9) rfl)) rfl dX5_readCheck_262 rfl ?_
  refine r_iconst dX5_readCheck_265 (by decide) ?_
  refine r_iadd dX5_readCheck_266 ?_
  obtain ⟨h267, hg267, hr⟩ := bnd hr
  refine r_put' 4 3 (t := 0) (ref := "FollowingRefs$Schema") hg267 rfl tyX4 tyX4_ok nmX4 rfl (by decide) rfl (by decide) inlX4 (wsl_16 _ (List.mem_of_getElem? (i := 9) rfl)) rfl rfl (by decide +kernel) (by decide) rfl (Or.inl ⟨rfl, rfl⟩) dX5_readCheck_267 ?_
  refine r_iconst dX5_readCheck_270 (by decide) ?_
  refine r_scast 0 (v := (0, 1)) (w := (2, 1)) rfl cz (fun _ => Or.inr rfl) (st' := [(2, 1)]) rfl ?_
  obtain rfl := Option.some.inj hr
  exact r_ret dX5_readCheck_271 rfl (Or.inr ⟨rfl, rfl⟩) (k0 _ hk) ⟨rfl, rfl⟩
set_option maxRecDepth 100000 in
set_option maxHeartbeats 4000000 in
theorem oX5_readCheck_b223 {a0 l1 s0 s1 s2 : Int} {K : Int × hH → Prop} (k0 : ∀ r, K (r) → x = (some (2, r.1), r.2)) {r : Int × hH} (hr : fX5_readCheck_b223 h a0 l1 s0 s1 s2 = some r) (hk : K r) : Wq p l e R s m args below meth c D G A H0 true n0 M_X5_readCheck x 0 0 223 [(0, (15, a0)), (1, (0, l1))] [(0, s0), (0, s1), (50, s2)] h := by
  unfold fX5_readCheck_b223 at hr
  obtain ⟨h223, hg223, hr⟩ := bnd hr
  refine k_SN (host := "FollowingRefs") (as := [(50, s2), (0, s1), (0, s0)]) (rest := []) (X := (none, h223)) (oX11_put hg223) gX11_put rfl (List.mem_of_getElem? (i := 26) rfl) rfl dX5_readCheck_223 rfl ?_
  refine r_aload_n dX5_readCheck_226 rfl 0 rfl (nl rfl) ?_
  refine r_get 5 1 (o := a0) (w := (14, h223 a0 1)) (T := TX5) (ref := "FollowingRefs$SchemaReader") rfl (by decide) rfl (by decide) inlX5 (wsl_4 _ (List.mem_of_getElem? (i := 23) rfl)) rfl dX5_readCheck_227 rfl ?_
  refine r_get 4 11 (o := h223 a0 1) (w := (50, h223 (h223 a0 1) 11)) (T := TX4) (ref := "FollowingRefs$Schema") rfl (by decide) rfl (by decide) inlX4 (wsl_21 _ (List.mem_of_getElem? (i := 20) rfl)) rfl dX5_readCheck_230 rfl ?_
  refine r_iload_n dX5_readCheck_233 rfl 1 rfl (Or.inl rfl) ?_
  refine r_iconst dX5_readCheck_234 (by decide) ?_
  refine r_iadd dX5_readCheck_235 ?_
  refine r_aload_n dX5_readCheck_236 rfl 0 rfl (nl rfl) ?_
  refine r_get 5 0 (o := a0) (w := (19, h223 a0 0)) (T := TX5) (ref := "FollowingRefs$SchemaReader") rfl (by decide) rfl (by decide) inlX5 (wsl_5 _ (List.mem_of_getElem? (i := 0) rfl)) rfl dX5_readCheck_237 rfl ?_
  refine r_sipush dX5_readCheck_240 (by decide) (by decide) ?_
  obtain ⟨q243, hg243, hr⟩ := bnd hr
  refine k_V (ci := 9) (o := h223 a0 0) (T := TX9) (as := [(0, 137)]) (rest := [(0, w32 (l1 + 5)), (50, h223 (h223 a0 1) 11)]) (X := (some (2, q243.1), q243.2)) (oX9_option hg243) gX9_option rfl (by decide) rfl (wsl_20 _ (List.mem_of_getElem? (i := 9) rfl)) rfl dX5_readCheck_243 rfl ?_
  refine r_scast 0 (v := (2, q243.1)) (w := (0, q243.1)) rfl zc hTz (st' := [(0, q243.1), (0, w32 (l1 + 5)), (50, h223 (h223 a0 1) 11)]) rfl ?_
  refine r_if_eq dX5_readCheck_246 (tgt := 253) (by decide) (fun hc => ?_) (fun hc => ?_)
  · have hr := ifp hr hc
    refine r_iconst dX5_readCheck_253 (by decide) ?_
    refine r_sub [0] (lv' := [(0, (15, a0))]) rfl ?_
    refine r_scast 0 (v := (0, 0)) (w := (2, 0)) rfl cz (fun _ => Or.inl rfl) (st' := [(2, 0), (0, w32 (l1 + 5)), (50, h223 (h223 a0 1) 11)]) rfl ?_
    exact oX5_readCheck_b254 (K := K) (fun r z => k0 r z) hr hk
  · have hr := ifn hr hc
    refine r_iconst dX5_readCheck_249 (by decide) ?_
    refine r_goto dX5_readCheck_250 (tgt := 254) (by decide) ?_
    refine r_sub [0] (lv' := [(0, (15, a0))]) rfl ?_
    refine r_scast 0 (v := (0, 1)) (w := (2, 1)) rfl cz (fun _ => Or.inr rfl) (st' := [(2, 1), (0, w32 (l1 + 5)), (50, h223 (h223 a0 1) 11)]) rfl ?_
    exact oX5_readCheck_b254 (K := K) (fun r z => k0 r z) hr hk
set_option maxRecDepth 100000 in
set_option maxHeartbeats 4000000 in
theorem oX5_readCheck_b199 {a0 l1 l5 l6 s0 s1 s2 : Int} {K : Int × hH → Prop} (k0 : ∀ r, K (r) → x = (some (2, r.1), r.2)) {r : Int × hH} (hr : fX5_readCheck_b199 h a0 l1 l5 l6 s0 s1 s2 = some r) (hk : K r) : Wq p l e R s m args below meth c D G A H0 true n0 M_X5_readCheck x 0 0 199 [(0, (15, a0)), (1, (0, l1)), (5, (2, l5)), (6, (0, l6))] [(0, s0), (0, s1), (50, s2)] h := by
  unfold fX5_readCheck_b199 at hr
  obtain ⟨h199, hg199, hr⟩ := bnd hr
  refine k_SN (host := "FollowingRefs") (as := [(50, s2), (0, s1), (0, s0)]) (rest := []) (X := (none, h199)) (oX11_put hg199) gX11_put rfl (List.mem_of_getElem? (i := 26) rfl) rfl dX5_readCheck_199 rfl ?_
  refine r_aload_n dX5_readCheck_202 rfl 0 rfl (nl rfl) ?_
  refine r_get 5 1 (o := a0) (w := (14, h199 a0 1)) (T := TX5) (ref := "FollowingRefs$SchemaReader") rfl (by decide) rfl (by decide) inlX5 (wsl_4 _ (List.mem_of_getElem? (i := 23) rfl)) rfl dX5_readCheck_203 rfl ?_
  refine r_get 4 11 (o := h199 a0 1) (w := (50, h199 (h199 a0 1) 11)) (T := TX4) (ref := "FollowingRefs$Schema") rfl (by decide) rfl (by decide) inlX4 (wsl_21 _ (List.mem_of_getElem? (i := 20) rfl)) rfl dX5_readCheck_206 rfl ?_
  refine r_iload_n dX5_readCheck_209 rfl 1 rfl (Or.inl rfl) ?_
  refine r_iconst dX5_readCheck_210 (by decide) ?_
  refine r_iadd dX5_readCheck_211 ?_
  refine r_iload dX5_readCheck_212 2 rfl (Or.inr rfl) ?_
  refine r_scast 0 (v := (2, l5)) (w := (0, l5)) rfl zc hTz (st' := [(0, l5), (0, w32 (l1 + 4)), (50, h199 (h199 a0 1) 11)]) rfl ?_
  refine r_if_eq dX5_readCheck_214 (tgt := 221) (by decide) (fun hc => ?_) (fun hc => ?_)
  · have hr := ifp hr hc
    refine r_iload dX5_readCheck_221 3 rfl (Or.inl rfl) ?_
    refine r_sub [0, 1] (lv' := [(0, (15, a0)), (1, (0, l1))]) rfl ?_
    exact oX5_readCheck_b223 (K := K) (fun r z => k0 r z) hr hk
  · have hr := ifn hr hc
    refine r_iconst dX5_readCheck_217 (by decide) ?_
    refine r_goto dX5_readCheck_218 (tgt := 223) (by decide) ?_
    refine r_sub [0, 1] (lv' := [(0, (15, a0)), (1, (0, l1))]) rfl ?_
    exact oX5_readCheck_b223 (K := K) (fun r z => k0 r z) hr hk
set_option maxRecDepth 100000 in
set_option maxHeartbeats 4000000 in
theorem oX5_readCheck_b125 {a0 l1 l2 l3 l4 l5 s0 : Int} {K : Int × hH → Prop} (k0 : ∀ r, K (r) → x = (some (2, r.1), r.2)) {r : Int × hH} (hr : fX5_readCheck_b125 h a0 l1 l2 l3 l4 l5 s0 = some r) (hk : K r) : Wq p l e R s m args below meth c D G A H0 true n0 M_X5_readCheck x 0 0 125 [(0, (15, a0)), (1, (0, l1)), (2, (0, l2)), (3, (0, l3)), (4, (0, l4)), (5, (2, l5))] [(0, s0)] h := by
  unfold fX5_readCheck_b125 at hr
  refine r_istore dX5_readCheck_125 (Or.inl rfl) (by decide) (lv' := [(6, (0, s0)), (0, (15, a0)), (1, (0, l1)), (2, (0, l2)), (3, (0, l3)), (4, (0, l4)), (5, (2, l5))]) rfl ?_
  refine r_iload dX5_readCheck_127 0 rfl (Or.inl rfl) ?_
  refine r_iconst dX5_readCheck_129 (by decide) ?_
  refine r_icmp_ne dX5_readCheck_130 (tgt := 135) (by decide) (fun hc => ?_) (fun hc => ?_)
  · have hr := ifn hr hc
    refine r_aload_n dX5_readCheck_135 rfl 1 rfl (nl rfl) ?_
    refine r_get 5 1 (o := a0) (w := (14, h a0 1)) (T := TX5) (ref := "FollowingRefs$SchemaReader") rfl (by decide) rfl (by decide) inlX5 (wsl_4 _ (List.mem_of_getElem? (i := 23) rfl)) rfl dX5_readCheck_136 rfl ?_
    refine r_get 4 11 (o := h a0 1) (w := (50, h (h a0 1) 11)) (T := TX4) (ref := "FollowingRefs$Schema") rfl (by decide) rfl (by decide) inlX4 (wsl_21 _ (List.mem_of_getElem? (i := 20) rfl)) rfl dX5_readCheck_139 rfl ?_
    refine r_iload_n dX5_readCheck_142 rfl 2 rfl (Or.inl rfl) ?_
    refine r_iconst dX5_readCheck_143 (by decide) ?_
    refine r_iadd dX5_readCheck_144 ?_
    refine r_iload_n dX5_readCheck_145 rfl 3 rfl (Or.inl rfl) ?_
    obtain ⟨h146, hg146, hr⟩ := bnd hr
    refine k_SN (host := "FollowingRefs") (as := [(50, h (h a0 1) 11), (0, w32 (l1 + 0)), (0, l2)]) (rest := []) (X := (none, h146)) (oX11_put hg146) gX11_put rfl (List.mem_of_getElem? (i := 26) rfl) rfl dX5_readCheck_146 rfl ?_
    refine r_aload_n dX5_readCheck_149 rfl 1 rfl (nl rfl) ?_
    refine r_get 5 1 (o := a0) (w := (14, h146 a0 1)) (T := TX5) (ref := "FollowingRefs$SchemaReader") rfl (by decide) rfl (by decide) inlX5 (wsl_4 _ (List.mem_of_getElem? (i := 23) rfl)) rfl dX5_readCheck_150 rfl ?_
    refine r_get 4 11 (o := h146 a0 1) (w := (50, h146 (h146 a0 1) 11)) (T := TX4) (ref := "FollowingRefs$Schema") rfl (by decide) rfl (by decide) inlX4 (wsl_21 _ (List.mem_of_getElem? (i := 20) rfl)) rfl dX5_readCheck_153 rfl ?_
    refine r_iload_n dX5_readCheck_156 rfl 2 rfl (Or.inl rfl) ?_
    refine r_iconst dX5_readCheck_157 (by decide) ?_
    refine r_iadd dX5_readCheck_158 ?_
    refine r_iload_n dX5_readCheck_159 rfl 4 rfl (Or.inl rfl) ?_
    obtain ⟨h160, hg160, hr⟩ := bnd hr
    refine k_SN (host := "FollowingRefs") (as := [(50, h146 (h146 a0 1) 11), (0, w32 (l1 + 1)), (0, l3)]) (rest := []) (X := (none, h160)) (oX11_put hg160) gX11_put rfl (List.mem_of_getElem? (i := 26) rfl) rfl dX5_readCheck_160 rfl ?_
    refine r_aload_n dX5_readCheck_163 rfl 1 rfl (nl rfl) ?_
    refine r_get 5 1 (o := a0) (w := (14, h160 a0 1)) (T := TX5) (ref := "FollowingRefs$SchemaReader") rfl (by decide) rfl (by decide) inlX5 (wsl_4 _ (List.mem_of_getElem? (i := 23) rfl)) rfl dX5_readCheck_164 rfl ?_
    refine r_get 4 11 (o := h160 a0 1) (w := (50, h160 (h160 a0 1) 11)) (T := TX4) (ref := "FollowingRefs$Schema") rfl (by decide) rfl (by decide) inlX4 (wsl_21 _ (List.mem_of_getElem? (i := 20) rfl)) rfl dX5_readCheck_167 rfl ?_
    refine r_iload_n dX5_readCheck_170 rfl 2 rfl (Or.inl rfl) ?_
    refine r_iconst dX5_readCheck_171 (by decide) ?_
    refine r_iadd dX5_readCheck_172 ?_
    refine r_iload dX5_readCheck_173 5 rfl (Or.inl rfl) ?_
    obtain ⟨h175, hg175, hr⟩ := bnd hr
    refine k_SN (host := "FollowingRefs") (as := [(50, h160 (h160 a0 1) 11), (0, w32 (l1 + 2)), (0, l4)]) (rest := []) (X := (none, h175)) (oX11_put hg175) gX11_put rfl (List.mem_of_getElem? (i := 26) rfl) rfl dX5_readCheck_175 rfl ?_
    refine r_aload_n dX5_readCheck_178 rfl 1 rfl (nl rfl) ?_
    refine r_get 5 1 (o := a0) (w := (14, h175 a0 1)) (T := TX5) (ref := "FollowingRefs$SchemaReader") rfl (by decide) rfl (by decide) inlX5 (wsl_4 _ (List.mem_of_getElem? (i := 23) rfl)) rfl dX5_readCheck_179 rfl ?_
    refine r_get 4 11 (o := h175 a0 1) (w := (50, h175 (h175 a0 1) 11)) (T := TX4) (ref := "FollowingRefs$Schema") rfl (by decide) rfl (by decide) inlX4 (wsl_21 _ (List.mem_of_getElem? (i := 20) rfl)) rfl dX5_readCheck_182 rfl ?_
    refine r_iload_n dX5_readCheck_185 rfl 2 rfl (Or.inl rfl) ?_
    refine r_iconst dX5_readCheck_186 (by decide) ?_
    refine r_iadd dX5_readCheck_187 ?_
    refine r_iload dX5_readCheck_188 6 rfl (Or.inr rfl) ?_
    refine r_scast 0 (v := (2, l5)) (w := (0, l5)) rfl zc hTz (st' := [(0, l5), (0, w32 (l1 + 3)), (50, h175 (h175 a0 1) 11)]) rfl ?_
    refine r_if_eq dX5_readCheck_190 (tgt := 198) (by decide) (fun hc => ?_) (fun hc => ?_)
    · have hr := ifp hr hc
      refine r_iconst dX5_readCheck_198 (by decide) ?_
      refine r_sub [1, 2, 6, 0] (lv' := [(0, (15, a0)), (1, (0, l1)), (5, (2, l5)), (6, (0, s0))]) rfl ?_
      exact oX5_readCheck_b199 (K := K) (fun r z => k0 r z) hr hk
    · have hr := ifn hr hc
      refine r_iload dX5_readCheck_193 0 rfl (Or.inl rfl) ?_
      refine r_goto dX5_readCheck_195 (tgt := 199) (by decide) ?_
      refine r_sub [1, 2, 6, 0] (lv' := [(0, (15, a0)), (1, (0, l1)), (5, (2, l5)), (6, (0, s0))]) rfl ?_
      exact oX5_readCheck_b199 (K := K) (fun r z => k0 r z) hr hk
  · have hr := ifp hr hc
    refine r_iconst dX5_readCheck_133 (by decide) ?_
    refine r_scast 0 (v := (0, 0)) (w := (2, 0)) rfl cz (fun _ => Or.inl rfl) (st' := [(2, 0)]) rfl ?_
    obtain rfl := Option.some.inj hr
    exact r_ret dX5_readCheck_134 rfl (Or.inr ⟨rfl, rfl⟩) (k0 _ hk) ⟨rfl, rfl⟩
set_option maxRecDepth 100000 in
set_option maxHeartbeats 4000000 in
theorem oX5_readCheck_b95 {a0 l1 l2 l3 l4 s0 : Int} {K : Int × hH → Prop} (k0 : ∀ r, K (r) → x = (some (2, r.1), r.2)) {r : Int × hH} (hr : fX5_readCheck_b95 h a0 l1 l2 l3 l4 s0 = some r) (hk : K r) : Wq p l e R s m args below meth c D G A H0 true n0 M_X5_readCheck x 0 0 95 [(0, (15, a0)), (1, (0, l1)), (2, (0, l2)), (3, (0, l3)), (4, (0, l4))] [(2, s0)] h := by
  unfold fX5_readCheck_b95 at hr
  refine r_istore dX5_readCheck_95 (Or.inr rfl) (by decide) (lv' := [(5, (2, s0)), (0, (15, a0)), (1, (0, l1)), (2, (0, l2)), (3, (0, l3)), (4, (0, l4))]) rfl ?_
  refine r_iload dX5_readCheck_97 0 rfl (Or.inr rfl) ?_
  refine r_scast 0 (v := (2, s0)) (w := (0, s0)) rfl zc hTz (st' := [(0, s0)]) rfl ?_
  refine r_if_eq dX5_readCheck_99 (tgt := 118) (by decide) (fun hc => ?_) (fun hc => ?_)
  · have hr := ifp hr hc
    refine r_aload_n dX5_readCheck_118 rfl 1 rfl (nl rfl) ?_
    refine r_get 5 0 (o := a0) (w := (19, h a0 0)) (T := TX5) (ref := "FollowingRefs$SchemaReader") rfl (by decide) rfl (by decide) inlX5 (wsl_5 _ (List.mem_of_getElem? (i := 0) rfl)) rfl dX5_readCheck_119 rfl ?_
    obtain ⟨q122, hg122, hr⟩ := bnd hr
    refine k_V (ci := 9) (o := h a0 0) (T := TX9) (as := []) (rest := []) (X := (some (0, q122.1), q122.2)) (oX9_takeNumber hg122) gX9_takeNumber rfl (by decide) rfl (wsl_21 _ (List.mem_of_getElem? (i := 2) rfl)) rfl dX5_readCheck_122 rfl ?_
    refine r_sub [1, 2, 3, 4, 5, 0] (lv' := [(0, (15, a0)), (1, (0, l1)), (2, (0, l2)), (3, (0, l3)), (4, (0, l4)), (5, (2, s0))]) rfl ?_
    exact oX5_readCheck_b125 (K := K) (fun r z => k0 r z) hr hk
  · have hr := ifn hr hc
    refine r_aload_n dX5_readCheck_102 rfl 1 rfl (nl rfl) ?_
    refine r_get 5 0 (o := a0) (w := (19, h a0 0)) (T := TX5) (ref := "FollowingRefs$SchemaReader") rfl (by decide) rfl (by decide) inlX5 (wsl_5 _ (List.mem_of_getElem? (i := 0) rfl)) rfl dX5_readCheck_103 rfl ?_
    refine r_aload_n dX5_readCheck_106 rfl 1 rfl (nl rfl) ?_
    refine r_get 5 1 (o := a0) (w := (14, h a0 1)) (T := TX5) (ref := "FollowingRefs$SchemaReader") rfl (by decide) rfl (by decide) inlX5 (wsl_4 _ (List.mem_of_getElem? (i := 23) rfl)) rfl dX5_readCheck_107 rfl ?_
    refine r_iload_n dX5_readCheck_110 rfl 3 rfl (Or.inl rfl) ?_
    refine r_iload_n dX5_readCheck_111 rfl 4 rfl (Or.inl rfl) ?_
    obtain ⟨q112, hg112, hr⟩ := bnd hr
    refine k_V (ci := 9) (o := h a0 0) (T := TX9) (as := [(14, h a0 1), (0, l2), (0, l3)]) (rest := []) (X := (some (0, q112.1), q112.2)) (oX9_takeCol hg112) gX9_takeCol rfl (by decide) rfl (wsl_18 _ (List.mem_of_getElem? (i := 16) rfl)) rfl dX5_readCheck_112 rfl ?_
    refine r_goto dX5_readCheck_115 (tgt := 125) (by decide) ?_
    refine r_sub [1, 2, 3, 4, 5, 0] (lv' := [(0, (15, a0)), (1, (0, l1)), (2, (0, l2)), (3, (0, l3)), (4, (0, l4)), (5, (2, s0))]) rfl ?_
    exact oX5_readCheck_b125 (K := K) (fun r z => k0 r z) hr hk
set_option maxRecDepth 100000 in
set_option maxHeartbeats 4000000 in
theorem oX5_readCheck_b69 {a0 l1 l2 l3 s0 : Int} {K : Int × hH → Prop} (k0 : ∀ r, K (r) → x = (some (2, r.1), r.2)) {r : Int × hH} (hr : fX5_readCheck_b69 h a0 l1 l2 l3 s0 = some r) (hk : K r) : Wq p l e R s m args below meth c D G A H0 true n0 M_X5_readCheck x 0 0 69 [(0, (15, a0)), (1, (0, l1)), (2, (0, l2)), (3, (0, l3))] [(0, s0)] h := by
  unfold fX5_readCheck_b69 at hr
  refine r_istore dX5_readCheck_69 (Or.inl rfl) (by decide) (lv' := [(4, (0, s0)), (0, (15, a0)), (1, (0, l1)), (2, (0, l2)), (3, (0, l3))]) rfl ?_
  refine r_iload dX5_readCheck_71 0 rfl (Or.inl rfl) ?_
  refine r_iconst dX5_readCheck_73 (by decide) ?_
  refine r_icmp_ne dX5_readCheck_74 (tgt := 79) (by decide) (fun hc => ?_) (fun hc => ?_)
  · have hr := ifn hr hc
    refine r_aload_n dX5_readCheck_79 rfl 1 rfl (nl rfl) ?_
    refine r_get 5 0 (o := a0) (w := (19, h a0 0)) (T := TX5) (ref := "FollowingRefs$SchemaReader") rfl (by decide) rfl (by decide) inlX5 (wsl_5 _ (List.mem_of_getElem? (i := 0) rfl)) rfl dX5_readCheck_80 rfl ?_
    refine r_get 9 5 (o := h a0 0) (w := (0, h (h a0 0) 5)) (T := TX9) (ref := "FollowingRefs$Text") rfl (by decide) rfl (by decide) inlX9 (wsl_11 _ (List.mem_of_getElem? (i := 14) rfl)) rfl dX5_readCheck_83 rfl ?_
    refine r_iconst dX5_readCheck_86 (by decide) ?_
    refine r_icmp_ne dX5_readCheck_87 (tgt := 94) (by decide) (fun hc => ?_) (fun hc => ?_)
    · have hr := ifn hr hc
      refine r_iconst dX5_readCheck_94 (by decide) ?_
      refine r_sub [1, 2, 3, 4, 0] (lv' := [(0, (15, a0)), (1, (0, l1)), (2, (0, l2)), (3, (0, l3)), (4, (0, s0))]) rfl ?_
      refine r_scast 0 (v := (0, 0)) (w := (2, 0)) rfl cz (fun _ => Or.inl rfl) (st' := [(2, 0)]) rfl ?_
      exact oX5_readCheck_b95 (K := K) (fun r z => k0 r z) hr hk
    · have hr := ifp hr hc
      refine r_iconst dX5_readCheck_90 (by decide) ?_
      refine r_goto dX5_readCheck_91 (tgt := 95) (by decide) ?_
      refine r_sub [1, 2, 3, 4, 0] (lv' := [(0, (15, a0)), (1, (0, l1)), (2, (0, l2)), (3, (0, l3)), (4, (0, s0))]) rfl ?_
      refine r_scast 0 (v := (0, 1)) (w := (2, 1)) rfl cz (fun _ => Or.inr rfl) (st' := [(2, 1)]) rfl ?_
      exact oX5_readCheck_b95 (K := K) (fun r z => k0 r z) hr hk
  · have hr := ifp hr hc
    refine r_iconst dX5_readCheck_77 (by decide) ?_
    refine r_scast 0 (v := (0, 0)) (w := (2, 0)) rfl cz (fun _ => Or.inl rfl) (st' := [(2, 0)]) rfl ?_
    obtain rfl := Option.some.inj hr
    exact r_ret dX5_readCheck_78 rfl (Or.inr ⟨rfl, rfl⟩) (k0 _ hk) ⟨rfl, rfl⟩
set_option maxRecDepth 100000 in
set_option maxHeartbeats 4000000 in
theorem oX5_readCheck_b52 {a0 l1 l2 s0 : Int} {K : Int × hH → Prop} (k0 : ∀ r, K (r) → x = (some (2, r.1), r.2)) {r : Int × hH} (hr : fX5_readCheck_b52 h a0 l1 l2 s0 = some r) (hk : K r) : Wq p l e R s m args below meth c D G A H0 true n0 M_X5_readCheck x 0 0 52 [(0, (15, a0)), (1, (0, l1)), (2, (0, l2))] [(0, s0)] h := by
  unfold fX5_readCheck_b52 at hr
  refine r_istore_n dX5_readCheck_52 rfl (Or.inl rfl) (by decide) (lv' := [(3, (0, s0)), (0, (15, a0)), (1, (0, l1)), (2, (0, l2))]) rfl ?_
  refine r_iload_n dX5_readCheck_53 rfl 0 rfl (Or.inl rfl) ?_
  refine r_iconst dX5_readCheck_54 (by decide) ?_
  refine r_icmp_ne dX5_readCheck_55 (tgt := 62) (by decide) (fun hc => ?_) (fun hc => ?_)
  · have hr := ifn hr hc
    refine r_aload_n dX5_readCheck_62 rfl 1 rfl (nl rfl) ?_
    refine r_get 5 0 (o := a0) (w := (19, h a0 0)) (T := TX5) (ref := "FollowingRefs$SchemaReader") rfl (by decide) rfl (by decide) inlX5 (wsl_5 _ (List.mem_of_getElem? (i := 0) rfl)) rfl dX5_readCheck_63 rfl ?_
    obtain ⟨q66, hg66, hr⟩ := bnd hr
    refine k_V (ci := 9) (o := h a0 0) (T := TX9) (as := []) (rest := []) (X := (some (0, q66.1), q66.2)) (oX9_takeComparison hg66) gX9_takeComparison rfl (by decide) rfl (wsl_21 _ (List.mem_of_getElem? (i := 21) rfl)) rfl dX5_readCheck_66 rfl ?_
    refine r_sub [1, 2, 3, 0] (lv' := [(0, (15, a0)), (1, (0, l1)), (2, (0, l2)), (3, (0, s0))]) rfl ?_
    exact oX5_readCheck_b69 (K := K) (fun r z => k0 r z) hr hk
  · have hr := ifp hr hc
    refine r_iconst dX5_readCheck_58 (by decide) ?_
    refine r_goto dX5_readCheck_59 (tgt := 69) (by decide) ?_
    refine r_sub [1, 2, 3, 0] (lv' := [(0, (15, a0)), (1, (0, l1)), (2, (0, l2)), (3, (0, s0))]) rfl ?_
    exact oX5_readCheck_b69 (K := K) (fun r z => k0 r z) hr hk
set_option maxRecDepth 100000 in
set_option maxHeartbeats 4000000 in
theorem oX5_readCheck_b0 {a0 : Int} {K : Int × hH → Prop} (k0 : ∀ r, K (r) → x = (some (2, r.1), r.2)) {r : Int × hH} (hr : fX5_readCheck h a0 = some r) (hk : K r) : Wq p l e R s m args below meth c D G A H0 true n0 M_X5_readCheck x 0 0 0 [(0, (15, a0))] [] h := by
  unfold fX5_readCheck at hr
  refine r_aload_n dX5_readCheck_0 rfl 0 rfl (nl rfl) ?_
  refine r_get 5 0 (o := a0) (w := (19, h a0 0)) (T := TX5) (ref := "FollowingRefs$SchemaReader") rfl (by decide) rfl (by decide) inlX5 (wsl_5 _ (List.mem_of_getElem? (i := 0) rfl)) rfl dX5_readCheck_1 rfl ?_
  obtain ⟨h4, hg4, hr⟩ := bnd hr
  refine k_V (ci := 9) (o := h a0 0) (T := TX9) (as := []) (rest := []) (X := (none, h4)) (oX9_step hg4) gX9_step rfl (by decide) rfl (wsl_16 _ (List.mem_of_getElem? (i := 19) rfl)) rfl dX5_readCheck_4 rfl ?_
  refine r_aload_n dX5_readCheck_7 rfl 0 rfl (nl rfl) ?_
  refine r_get 5 1 (o := a0) (w := (14, h4 a0 1)) (T := TX5) (ref := "FollowingRefs$SchemaReader") rfl (by decide) rfl (by decide) inlX5 (wsl_4 _ (List.mem_of_getElem? (i := 23) rfl)) rfl dX5_readCheck_8 rfl ?_
  refine r_get 4 3 (o := h4 a0 1) (w := (0, h4 (h4 a0 1) 3)) (T := TX4) (ref := "FollowingRefs$Schema") rfl (by decide) rfl (by decide) inlX4 (wsl_16 _ (List.mem_of_getElem? (i := 9) rfl)) rfl dX5_readCheck_11 rfl ?_
  refine r_bipush dX5_readCheck_14 (by decide) (by decide) ?_
  refine r_imul dX5_readCheck_16 ?_
  refine r_istore_n dX5_readCheck_17 rfl (Or.inl rfl) (by decide) (lv' := [(1, (0, w32 ((h4 (h4 a0 1) 3) * 6))), (0, (15, a0))]) rfl ?_
  refine r_aload_n dX5_readCheck_18 rfl 1 rfl (nl rfl) ?_
  refine r_get 5 0 (o := a0) (w := (19, h4 a0 0)) (T := TX5) (ref := "FollowingRefs$SchemaReader") rfl (by decide) rfl (by decide) inlX5 (wsl_5 _ (List.mem_of_getElem? (i := 0) rfl)) rfl dX5_readCheck_19 rfl ?_
  refine r_aload_n dX5_readCheck_22 rfl 1 rfl (nl rfl) ?_
  refine r_get 5 1 (o := a0) (w := (14, h4 a0 1)) (T := TX5) (ref := "FollowingRefs$SchemaReader") rfl (by decide) rfl (by decide) inlX5 (wsl_4 _ (List.mem_of_getElem? (i := 23) rfl)) rfl dX5_readCheck_23 rfl ?_
  obtain ⟨q26, hg26, hr⟩ := bnd hr
  refine k_V (ci := 9) (o := h4 a0 0) (T := TX9) (as := [(14, h4 a0 1)]) (rest := []) (X := (some (0, q26.1), q26.2)) (oX9_takeTable hg26) gX9_takeTable rfl (by decide) rfl (wsl_18 _ (List.mem_of_getElem? (i := 10) rfl)) rfl dX5_readCheck_26 rfl ?_
  refine r_istore_n dX5_readCheck_29 rfl (Or.inl rfl) (by decide) (lv' := [(2, (0, q26.1)), (1, (0, w32 ((h4 (h4 a0 1) 3) * 6))), (0, (15, a0))]) rfl ?_
  refine r_iload_n dX5_readCheck_30 rfl 0 rfl (Or.inl rfl) ?_
  refine r_iconst dX5_readCheck_31 (by decide) ?_
  refine r_icmp_ne dX5_readCheck_32 (tgt := 39) (by decide) (fun hc => ?_) (fun hc => ?_)
  · have hr := ifn hr hc
    refine r_aload_n dX5_readCheck_39 rfl 2 rfl (nl rfl) ?_
    refine r_get 5 0 (o := a0) (w := (19, q26.2 a0 0)) (T := TX5) (ref := "FollowingRefs$SchemaReader") rfl (by decide) rfl (by decide) inlX5 (wsl_5 _ (List.mem_of_getElem? (i := 0) rfl)) rfl dX5_readCheck_40 rfl ?_
    refine r_aload_n dX5_readCheck_43 rfl 2 rfl (nl rfl) ?_
    refine r_get 5 1 (o := a0) (w := (14, q26.2 a0 1)) (T := TX5) (ref := "FollowingRefs$SchemaReader") rfl (by decide) rfl (by decide) inlX5 (wsl_4 _ (List.mem_of_getElem? (i := 23) rfl)) rfl dX5_readCheck_44 rfl ?_
    refine r_iload_n dX5_readCheck_47 rfl 0 rfl (Or.inl rfl) ?_
    refine r_iconst dX5_readCheck_48 (by decide) ?_
    obtain ⟨q49, hg49, hr⟩ := bnd hr
    refine k_V (ci := 9) (o := q26.2 a0 0) (T := TX9) (as := [(14, q26.2 a0 1), (0, q26.1), (0, -1)]) (rest := []) (X := (some (0, q49.1), q49.2)) (oX9_takeCol hg49) gX9_takeCol rfl (by decide) rfl (wsl_18 _ (List.mem_of_getElem? (i := 16) rfl)) rfl dX5_readCheck_49 rfl ?_
    refine r_sub [2, 1, 0] (lv' := [(0, (15, a0)), (1, (0, w32 ((h4 (h4 a0 1) 3) * 6))), (2, (0, q26.1))]) rfl ?_
    exact oX5_readCheck_b52 (K := K) (fun r z => k0 r z) hr hk
  · have hr := ifp hr hc
    refine r_iconst dX5_readCheck_35 (by decide) ?_
    refine r_goto dX5_readCheck_36 (tgt := 52) (by decide) ?_
    refine r_sub [2, 1, 0] (lv' := [(0, (15, a0)), (1, (0, w32 ((h4 (h4 a0 1) 3) * 6))), (2, (0, q26.1))]) rfl ?_
    exact oX5_readCheck_b52 (K := K) (fun r z => k0 r z) hr hk
end M_X5_readCheck
theorem oX5_readCheck {l : Launch} {D : va_G} {G : gG} {h : hH} {a0 : Int} {r : Int × hH} (hr : fX5_readCheck h a0 = some r) : Ctr l D G true yX5_readCheck M_X5_readCheck [(15, a0)] h (some (2, r.1), r.2) :=
  Ctr_of (by decide) rfl (fun z => by cases z) (nl rfl) (fun {p e R s m args below meth c A H0} => by
    exact oX5_readCheck_b0 (K := fun z9 => z9 = r) (fun r9 z => by rw [z]) hr rfl)
/-! X5_readSchema -/
theorem dX5_readSchema_0 : decode cX5_readSchema 0 = .ok (.aload_n 0, 1) := by decide +kernel
theorem dX5_readSchema_1 : decode cX5_readSchema 1 = .ok (.getfield 12, 3) := by decide +kernel
theorem dX5_readSchema_4 : decode cX5_readSchema 4 = .ok (.invokevirtual 22, 3) := by decide +kernel
theorem dX5_readSchema_7 : decode cX5_readSchema 7 = .ok (.aload_n 0, 1) := by decide +kernel
theorem dX5_readSchema_8 : decode cX5_readSchema 8 = .ok (.iconst 0, 1) := by decide +kernel
theorem dX5_readSchema_9 : decode cX5_readSchema 9 = .ok (.putfield 25, 3) := by decide +kernel
theorem dX5_readSchema_12 : decode cX5_readSchema 12 = .ok (.aload_n 0, 1) := by decide +kernel
theorem dX5_readSchema_13 : decode cX5_readSchema 13 = .ok (.getfield 18, 3) := by decide +kernel
theorem dX5_readSchema_16 : decode cX5_readSchema 16 = .ok (.sipush 900, 3) := by decide +kernel
theorem dX5_readSchema_19 : decode cX5_readSchema 19 = .ok (.invokevirtual 29, 3) := by decide +kernel
theorem dX5_readSchema_22 : decode cX5_readSchema 22 = .ok (.aload_n 0, 1) := by decide +kernel
theorem dX5_readSchema_23 : decode cX5_readSchema 23 = .ok (.getfield 18, 3) := by decide +kernel
theorem dX5_readSchema_26 : decode cX5_readSchema 26 = .ok (.getfield 35, 3) := by decide +kernel
theorem dX5_readSchema_29 : decode cX5_readSchema 29 = .ok (.ifCond .eq 195, 3) := by decide +kernel
theorem dX5_readSchema_32 : decode cX5_readSchema 32 = .ok (.aload_n 0, 1) := by decide +kernel
theorem dX5_readSchema_33 : decode cX5_readSchema 33 = .ok (.getfield 25, 3) := by decide +kernel
theorem dX5_readSchema_36 : decode cX5_readSchema 36 = .ok (.sipush 900, 3) := by decide +kernel
theorem dX5_readSchema_39 : decode cX5_readSchema 39 = .ok (.if_icmp .ge 185, 3) := by decide +kernel
theorem dX5_readSchema_42 : decode cX5_readSchema 42 = .ok (.aload_n 0, 1) := by decide +kernel
theorem dX5_readSchema_43 : decode cX5_readSchema 43 = .ok (.getfield 18, 3) := by decide +kernel
theorem dX5_readSchema_46 : decode cX5_readSchema 46 = .ok (.getfield 35, 3) := by decide +kernel
theorem dX5_readSchema_49 : decode cX5_readSchema 49 = .ok (.istore_n 1, 1) := by decide +kernel
theorem dX5_readSchema_50 : decode cX5_readSchema 50 = .ok (.aload_n 0, 1) := by decide +kernel
theorem dX5_readSchema_51 : decode cX5_readSchema 51 = .ok (.iload_n 1, 1) := by decide +kernel
theorem dX5_readSchema_52 : decode cX5_readSchema 52 = .ok (.invokevirtual 38, 3) := by decide +kernel
theorem dX5_readSchema_55 : decode cX5_readSchema 55 = .ok (.ifCond .eq 12, 3) := by decide +kernel
theorem dX5_readSchema_58 : decode cX5_readSchema 58 = .ok (.aload_n 0, 1) := by decide +kernel
theorem dX5_readSchema_59 : decode cX5_readSchema 59 = .ok (.getfield 18, 3) := by decide +kernel
theorem dX5_readSchema_62 : decode cX5_readSchema 62 = .ok (.iconst 4, 1) := by decide +kernel
theorem dX5_readSchema_63 : decode cX5_readSchema 63 = .ok (.invokevirtual 42, 3) := by decide +kernel
theorem dX5_readSchema_66 : decode cX5_readSchema 66 = .ok (.ireturn, 1) := by decide +kernel
theorem dX5_readSchema_67 : decode cX5_readSchema 67 = .ok (.iload_n 1, 1) := by decide +kernel
theorem dX5_readSchema_68 : decode cX5_readSchema 68 = .ok (.tableswitch 116 128 140 #[68, 76, 84, 116, 116, 116, 116, 116, 116, 116, 92, 100, 108], 68) := by decide +kernel
theorem dX5_readSchema_136 : decode cX5_readSchema 136 = .ok (.aload_n 0, 1) := by decide +kernel
theorem dX5_readSchema_137 : decode cX5_readSchema 137 = .ok (.invokevirtual 45, 3) := by decide +kernel
theorem dX5_readSchema_140 : decode cX5_readSchema 140 = .ok (.istore_n 2, 1) := by decide +kernel
theorem dX5_readSchema_141 : decode cX5_readSchema 141 = .ok (.goto 52, 3) := by decide +kernel
theorem dX5_readSchema_144 : decode cX5_readSchema 144 = .ok (.aload_n 0, 1) := by decide +kernel
theorem dX5_readSchema_145 : decode cX5_readSchema 145 = .ok (.invokevirtual 49, 3) := by decide +kernel
theorem dX5_readSchema_148 : decode cX5_readSchema 148 = .ok (.istore_n 2, 1) := by decide +kernel
theorem dX5_readSchema_149 : decode cX5_readSchema 149 = .ok (.goto 44, 3) := by decide +kernel
theorem dX5_readSchema_152 : decode cX5_readSchema 152 = .ok (.aload_n 0, 1) := by decide +kernel
theorem dX5_readSchema_153 : decode cX5_readSchema 153 = .ok (.invokevirtual 52, 3) := by decide +kernel
theorem dX5_readSchema_156 : decode cX5_readSchema 156 = .ok (.istore_n 2, 1) := by decide +kernel
theorem dX5_readSchema_157 : decode cX5_readSchema 157 = .ok (.goto 36, 3) := by decide +kernel
theorem dX5_readSchema_160 : decode cX5_readSchema 160 = .ok (.aload_n 0, 1) := by decide +kernel
theorem dX5_readSchema_161 : decode cX5_readSchema 161 = .ok (.invokevirtual 55, 3) := by decide +kernel
theorem dX5_readSchema_164 : decode cX5_readSchema 164 = .ok (.istore_n 2, 1) := by decide +kernel
theorem dX5_readSchema_165 : decode cX5_readSchema 165 = .ok (.goto 28, 3) := by decide +kernel
theorem dX5_readSchema_168 : decode cX5_readSchema 168 = .ok (.aload_n 0, 1) := by decide +kernel
theorem dX5_readSchema_169 : decode cX5_readSchema 169 = .ok (.invokevirtual 58, 3) := by decide +kernel
theorem dX5_readSchema_172 : decode cX5_readSchema 172 = .ok (.istore_n 2, 1) := by decide +kernel
theorem dX5_readSchema_173 : decode cX5_readSchema 173 = .ok (.goto 20, 3) := by decide +kernel
theorem dX5_readSchema_176 : decode cX5_readSchema 176 = .ok (.aload_n 0, 1) := by decide +kernel
theorem dX5_readSchema_177 : decode cX5_readSchema 177 = .ok (.invokevirtual 61, 3) := by decide +kernel
theorem dX5_readSchema_180 : decode cX5_readSchema 180 = .ok (.istore_n 2, 1) := by decide +kernel
theorem dX5_readSchema_181 : decode cX5_readSchema 181 = .ok (.goto 12, 3) := by decide +kernel
theorem dX5_readSchema_184 : decode cX5_readSchema 184 = .ok (.aload_n 0, 1) := by decide +kernel
theorem dX5_readSchema_185 : decode cX5_readSchema 185 = .ok (.getfield 18, 3) := by decide +kernel
theorem dX5_readSchema_188 : decode cX5_readSchema 188 = .ok (.iconst 1, 1) := by decide +kernel
theorem dX5_readSchema_189 : decode cX5_readSchema 189 = .ok (.invokevirtual 42, 3) := by decide +kernel
theorem dX5_readSchema_192 : decode cX5_readSchema 192 = .ok (.istore_n 2, 1) := by decide +kernel
theorem dX5_readSchema_193 : decode cX5_readSchema 193 = .ok (.iload_n 2, 1) := by decide +kernel
theorem dX5_readSchema_194 : decode cX5_readSchema 194 = .ok (.ifCond .eq 15, 3) := by decide +kernel
theorem dX5_readSchema_197 : decode cX5_readSchema 197 = .ok (.aload_n 0, 1) := by decide +kernel
theorem dX5_readSchema_198 : decode cX5_readSchema 198 = .ok (.getfield 18, 3) := by decide +kernel
theorem dX5_readSchema_201 : decode cX5_readSchema 201 = .ok (.bipush 59, 2) := by decide +kernel
theorem dX5_readSchema_203 : decode cX5_readSchema 203 = .ok (.invokevirtual 64, 3) := by decide +kernel
theorem dX5_readSchema_206 : decode cX5_readSchema 206 = .ok (.ifCond .ne 5, 3) := by decide +kernel
theorem dX5_readSchema_209 : decode cX5_readSchema 209 = .ok (.iconst 0, 1) := by decide +kernel
theorem dX5_readSchema_210 : decode cX5_readSchema 210 = .ok (.ireturn, 1) := by decide +kernel
theorem dX5_readSchema_211 : decode cX5_readSchema 211 = .ok (.aload_n 0, 1) := by decide +kernel
theorem dX5_readSchema_212 : decode cX5_readSchema 212 = .ok (.dup, 1) := by decide +kernel
theorem dX5_readSchema_213 : decode cX5_readSchema 213 = .ok (.getfield 25, 3) := by decide +kernel
theorem dX5_readSchema_216 : decode cX5_readSchema 216 = .ok (.iconst 1, 1) := by decide +kernel
theorem dX5_readSchema_217 : decode cX5_readSchema 217 = .ok (.iadd, 1) := by decide +kernel
theorem dX5_readSchema_218 : decode cX5_readSchema 218 = .ok (.putfield 25, 3) := by decide +kernel
theorem dX5_readSchema_221 : decode cX5_readSchema 221 = .ok (.goto (-199), 3) := by decide +kernel
theorem dX5_readSchema_224 : decode cX5_readSchema 224 = .ok (.iconst 1, 1) := by decide +kernel
theorem dX5_readSchema_225 : decode cX5_readSchema 225 = .ok (.ireturn, 1) := by decide +kernel
abbrev M_X5_readSchema : mM := (cX5_readSchema, 3, RX5, some .boolean, false, 7, 164, 0, 0)
theorem gX5_readSchema : cI yX5_readSchema M_X5_readSchema 0 := ⟨(wsl_11 _ (List.mem_of_getElem? (i := 10) rfl)), (wsl_11 _ (List.mem_of_getElem? (i := 11) rfl)), (wsl_2 _ (List.mem_of_getElem? (i := 7) rfl)), (wsl_11 _ (List.mem_of_getElem? (i := 12) rfl)), by decide +kernel⟩
noncomputable def fX5_readSchema_b193 (h : hH) (a0 l2 : Int) : Option ((hH) ⊕ (Int × hH)) :=
  if l2 = 0 then
    some (.inr ((0, h)))
  else
    (fX9_take h (h a0 0) 59).bind fun q203 =>
    if q203.1 = 0 then
      some (.inr ((0, q203.2)))
    else
      (pput q203.2 a0 2 (w32 ((q203.2 a0 2) + 1))).bind fun h218 =>
      some (.inl h218)
noncomputable def fX5_readSchema_s22 (h0 : hH) (a0 : Int) : hH → Option ((hH) ⊕ (Int × hH)) := fun h =>
  if h (h a0 0) 5 = 0 then
    some (.inr ((1, h)))
  else
    if h a0 2 < 900 then
      (fX5_isFull h a0 (h (h a0 0) 5)).bind fun r52 =>
      if r52 = 0 then
        if h (h a0 0) 5 = 128 then
          (fX5_readTable h a0).bind fun q137 =>
          fX5_readSchema_b193 q137.2 a0 q137.1
        else
          if h (h a0 0) 5 = 129 then
            (fX5_readKey h a0).bind fun q145 =>
            fX5_readSchema_b193 q145.2 a0 q145.1
          else
            if h (h a0 0) 5 = 130 then
              (fX5_readRef h a0).bind fun q153 =>
              fX5_readSchema_b193 q153.2 a0 q153.1
            else
              if h (h a0 0) 5 = 131 then
                (fX9_fail h (h a0 0) 1).bind fun q189 =>
                fX5_readSchema_b193 q189.2 a0 q189.1
              else
                if h (h a0 0) 5 = 132 then
                  (fX9_fail h (h a0 0) 1).bind fun q189 =>
                  fX5_readSchema_b193 q189.2 a0 q189.1
                else
                  if h (h a0 0) 5 = 133 then
                    (fX9_fail h (h a0 0) 1).bind fun q189 =>
                    fX5_readSchema_b193 q189.2 a0 q189.1
                  else
                    if h (h a0 0) 5 = 134 then
                      (fX9_fail h (h a0 0) 1).bind fun q189 =>
                      fX5_readSchema_b193 q189.2 a0 q189.1
                    else
                      if h (h a0 0) 5 = 135 then
                        (fX9_fail h (h a0 0) 1).bind fun q189 =>
                        fX5_readSchema_b193 q189.2 a0 q189.1
                      else
                        if h (h a0 0) 5 = 136 then
                          (fX9_fail h (h a0 0) 1).bind fun q189 =>
                          fX5_readSchema_b193 q189.2 a0 q189.1
                        else
                          if h (h a0 0) 5 = 137 then
                            (fX9_fail h (h a0 0) 1).bind fun q189 =>
                            fX5_readSchema_b193 q189.2 a0 q189.1
                          else
                            if h (h a0 0) 5 = 138 then
                              (fX5_readDefault h a0).bind fun q161 =>
                              fX5_readSchema_b193 q161.2 a0 q161.1
                            else
                              if h (h a0 0) 5 = 139 then
                                (fX5_readNeed h a0).bind fun q169 =>
                                fX5_readSchema_b193 q169.2 a0 q169.1
                              else
                                if h (h a0 0) 5 = 140 then
                                  (fX5_readCheck h a0).bind fun q177 =>
                                  fX5_readSchema_b193 q177.2 a0 q177.1
                                else
                                  (fX9_fail h (h a0 0) 1).bind fun q189 =>
                                  fX5_readSchema_b193 q189.2 a0 q189.1
      else
        (fX9_fail h (h a0 0) 4).bind fun q63 =>
        some (.inr ((q63.1, q63.2)))
    else
      some (.inr ((1, h)))
noncomputable def fX5_readSchema (h : hH) (a0 : Int) : Option (Int × hH) :=
  (fX4_reset h (h a0 1)).bind fun h4 =>
  (pput h4 a0 2 0).bind fun h9 =>
  (fX9_start h9 (h9 a0 0) 900).bind fun h19 =>
  lpO (fX5_readSchema_s22 h19 a0) h19
section M_X5_readSchema
variable {p : Program} {l : Launch} {e : Env} {R : Room} {s : State} {m : MethodId} {args : Array Value} {below : List Frame} {meth : Method} {c : Code} {D : va_G} {G : gG} {A : Nat → Prop} {H0 : Heap} {n0 : Int} {x : Option vV × hH} {h : hH}
set_option maxRecDepth 100000 in
set_option maxHeartbeats 4000000 in
theorem oX5_readSchema_b193 {a0 l2 : Int} {K : (hH) ⊕ (Int × hH) → Prop} (k0 : ∀ r, K (.inr (r)) → x = (some (2, r.1), r.2)) (k1 : ∀ (h : hH), K (.inl h) → Wq p l e R s m args below meth c D G A H0 true n0 M_X5_readSchema x 0 0 22 [(0, (15, a0))] [] h) {r : (hH) ⊕ (Int × hH)} (hr : fX5_readSchema_b193 h a0 l2 = some r) (hk : K r) : Wq p l e R s m args below meth c D G A H0 true n0 M_X5_readSchema x 0 0 193 [(0, (15, a0)), (2, (2, l2))] [] h := by
  unfold fX5_readSchema_b193 at hr
  refine r_iload_n dX5_readSchema_193 rfl 1 rfl (Or.inr rfl) ?_
  refine r_scast 0 (v := (2, l2)) (w := (0, l2)) rfl zc hTz (st' := [(0, l2)]) rfl ?_
  refine r_if_eq dX5_readSchema_194 (tgt := 209) (by decide) (fun hc => ?_) (fun hc => ?_)
  · have hr := ifp hr hc
    refine r_iconst dX5_readSchema_209 (by decide) ?_
    refine r_scast 0 (v := (0, 0)) (w := (2, 0)) rfl cz (fun _ => Or.inl rfl) (st' := [(2, 0)]) rfl ?_
    obtain rfl := Option.some.inj hr
    exact r_ret dX5_readSchema_210 rfl (Or.inr ⟨rfl, rfl⟩) (k0 _ hk) ⟨rfl, rfl⟩
  · have hr := ifn hr hc
    refine r_aload_n dX5_readSchema_197 rfl 0 rfl (nl rfl) ?_
    refine r_get 5 0 (o := a0) (w := (19, h a0 0)) (T := TX5) (ref := "FollowingRefs$SchemaReader") rfl (by decide) rfl (by decide) inlX5 (wsl_5 _ (List.mem_of_getElem? (i := 0) rfl)) rfl dX5_readSchema_198 rfl ?_
    refine r_bipush dX5_readSchema_201 (by decide) (by decide) ?_
    obtain ⟨q203, hg203, hr⟩ := bnd hr
    refine k_V (ci := 9) (o := h a0 0) (T := TX9) (as := [(0, 59)]) (rest := []) (X := (some (2, q203.1), q203.2)) (oX9_take hg203) gX9_take rfl (by decide) rfl (wsl_19 _ (List.mem_of_getElem? (i := 10) rfl)) rfl dX5_readSchema_203 rfl ?_
    refine r_scast 0 (v := (2, q203.1)) (w := (0, q203.1)) rfl zc hTz (st' := [(0, q203.1)]) rfl ?_
    refine r_if_ne dX5_readSchema_206 (tgt := 211) (by decide) (fun hc => ?_) (fun hc => ?_)
    · have hr := ifn hr hc
      refine r_aload_n dX5_readSchema_211 rfl 0 rfl (nl rfl) ?_
      refine r_dup dX5_readSchema_212 (Nat.ne_of_beq_eq_false rfl) ?_
      refine r_get 5 2 (o := a0) (w := (0, q203.2 a0 2)) (T := TX5) (ref := "FollowingRefs$SchemaReader") rfl (by decide) rfl (by decide) inlX5 (wsl_11 _ (List.mem_of_getElem? (i := 13) rfl)) rfl dX5_readSchema_213 rfl ?_
      refine r_iconst dX5_readSchema_216 (by decide) ?_
      refine r_iadd dX5_readSchema_217 ?_
      obtain ⟨h218, hg218, hr⟩ := bnd hr
      refine r_put' 5 2 (t := 0) (ref := "FollowingRefs$SchemaReader") hg218 rfl tyX5 tyX5_ok nmX5 rfl (by decide) rfl (by decide) inlX5 (wsl_11 _ (List.mem_of_getElem? (i := 13) rfl)) rfl rfl (by decide +kernel) (by decide) rfl (Or.inl ⟨rfl, rfl⟩) dX5_readSchema_218 ?_
      refine r_goto dX5_readSchema_221 (tgt := 22) (by decide) ?_
      refine r_sub [0] (lv' := [(0, (15, a0))]) rfl ?_
      obtain rfl := Option.some.inj hr
      exact k1 _ hk
    · have hr := ifp hr hc
      refine r_iconst dX5_readSchema_209 (by decide) ?_
      refine r_scast 0 (v := (0, 0)) (w := (2, 0)) rfl cz (fun _ => Or.inl rfl) (st' := [(2, 0)]) rfl ?_
      obtain rfl := Option.some.inj hr
      exact r_ret dX5_readSchema_210 rfl (Or.inr ⟨rfl, rfl⟩) (k0 _ hk) ⟨rfl, rfl⟩
set_option maxRecDepth 100000 in
set_option maxHeartbeats 4000000 in
theorem oX5_readSchema_s22 {h0 : hH} {a0 : Int} {K : (hH) ⊕ (Int × hH) → Prop} (k0 : ∀ r, K (.inr (r)) → x = (some (2, r.1), r.2)) (k1 : ∀ (h : hH), K (.inl h) → Wq p l e R s m args below meth c D G A H0 true n0 M_X5_readSchema x 0 0 22 [(0, (15, a0))] [] h) {r : (hH) ⊕ (Int × hH)} (hr : fX5_readSchema_s22 h0 a0 h = some r) (hk : K r) : Wq p l e R s m args below meth c D G A H0 true n0 M_X5_readSchema x 0 0 22 [(0, (15, a0))] [] h := by
  unfold fX5_readSchema_s22 at hr
  refine r_aload_n dX5_readSchema_22 rfl 0 rfl (nl rfl) ?_
  refine r_get 5 0 (o := a0) (w := (19, h a0 0)) (T := TX5) (ref := "FollowingRefs$SchemaReader") rfl (by decide) rfl (by decide) inlX5 (wsl_5 _ (List.mem_of_getElem? (i := 0) rfl)) rfl dX5_readSchema_23 rfl ?_
  refine r_get 9 5 (o := h a0 0) (w := (0, h (h a0 0) 5)) (T := TX9) (ref := "FollowingRefs$Text") rfl (by decide) rfl (by decide) inlX9 (wsl_11 _ (List.mem_of_getElem? (i := 14) rfl)) rfl dX5_readSchema_26 rfl ?_
  refine r_if_eq dX5_readSchema_29 (tgt := 224) (by decide) (fun hc => ?_) (fun hc => ?_)
  · have hr := ifp hr hc
    refine r_iconst dX5_readSchema_224 (by decide) ?_
    refine r_scast 0 (v := (0, 1)) (w := (2, 1)) rfl cz (fun _ => Or.inr rfl) (st' := [(2, 1)]) rfl ?_
    obtain rfl := Option.some.inj hr
    exact r_ret dX5_readSchema_225 rfl (Or.inr ⟨rfl, rfl⟩) (k0 _ hk) ⟨rfl, rfl⟩
  · have hr := ifn hr hc
    refine r_aload_n dX5_readSchema_32 rfl 0 rfl (nl rfl) ?_
    refine r_get 5 2 (o := a0) (w := (0, h a0 2)) (T := TX5) (ref := "FollowingRefs$SchemaReader") rfl (by decide) rfl (by decide) inlX5 (wsl_11 _ (List.mem_of_getElem? (i := 13) rfl)) rfl dX5_readSchema_33 rfl ?_
    refine r_sipush dX5_readSchema_36 (by decide) (by decide) ?_
    refine r_icmp_ge dX5_readSchema_39 (tgt := 224) (by decide) (fun hc => ?_) (fun hc => ?_)
    · have hr := ifn hr hc
      refine r_iconst dX5_readSchema_224 (by decide) ?_
      refine r_scast 0 (v := (0, 1)) (w := (2, 1)) rfl cz (fun _ => Or.inr rfl) (st' := [(2, 1)]) rfl ?_
      obtain rfl := Option.some.inj hr
      exact r_ret dX5_readSchema_225 rfl (Or.inr ⟨rfl, rfl⟩) (k0 _ hk) ⟨rfl, rfl⟩
    · have hr := ifp hr hc
      refine r_aload_n dX5_readSchema_42 rfl 0 rfl (nl rfl) ?_
      refine r_get 5 0 (o := a0) (w := (19, h a0 0)) (T := TX5) (ref := "FollowingRefs$SchemaReader") rfl (by decide) rfl (by decide) inlX5 (wsl_5 _ (List.mem_of_getElem? (i := 0) rfl)) rfl dX5_readSchema_43 rfl ?_
      refine r_get 9 5 (o := h a0 0) (w := (0, h (h a0 0) 5)) (T := TX9) (ref := "FollowingRefs$Text") rfl (by decide) rfl (by decide) inlX9 (wsl_11 _ (List.mem_of_getElem? (i := 14) rfl)) rfl dX5_readSchema_46 rfl ?_
      refine r_istore_n dX5_readSchema_49 rfl (Or.inl rfl) (by decide) (lv' := [(1, (0, h (h a0 0) 5)), (0, (15, a0))]) rfl ?_
      refine r_aload_n dX5_readSchema_50 rfl 1 rfl (nl rfl) ?_
      refine r_iload_n dX5_readSchema_51 rfl 0 rfl (Or.inl rfl) ?_
      obtain ⟨r52, hg52, hr⟩ := bnd hr
      refine k_V (ci := 5) (o := a0) (T := TX5) (as := [(0, h (h a0 0) 5)]) (rest := []) (X := (some (2, r52), h)) (oX5_isFull hg52) gX5_isFull rfl (by decide) rfl (wsl_16 _ (List.mem_of_getElem? (i := 2) rfl)) rfl dX5_readSchema_52 rfl ?_
      refine r_scast 0 (v := (2, r52)) (w := (0, r52)) rfl zc hTz (st' := [(0, r52)]) rfl ?_
      refine r_if_eq dX5_readSchema_55 (tgt := 67) (by decide) (fun hc => ?_) (fun hc => ?_)
      · have hr := ifp hr hc
        refine r_iload_n dX5_readSchema_67 rfl 0 rfl (Or.inl rfl) ?_
        by_cases hs0 : h (h a0 0) 5 = 128
        · have hr := ifp hr hs0
          refine r_tableIn dX5_readSchema_68 (by omega) (by omega) (off := 68) (by rw [hs0]; rfl) (tgt := 136) (by decide) ?_
          refine r_aload_n dX5_readSchema_136 rfl 1 rfl (nl rfl) ?_
          obtain ⟨q137, hg137, hr⟩ := bnd hr
          refine k_V (ci := 5) (o := a0) (T := TX5) (as := []) (rest := []) (X := (some (2, q137.1), q137.2)) (oX5_readTable hg137) gX5_readTable rfl (by decide) rfl (wsl_16 _ (List.mem_of_getElem? (i := 14) rfl)) rfl dX5_readSchema_137 rfl ?_
          refine r_istore_n dX5_readSchema_140 rfl (Or.inr rfl) (by decide) (lv' := [(2, (2, q137.1)), (1, (0, h (h a0 0) 5)), (0, (15, a0))]) rfl ?_
          refine r_goto dX5_readSchema_141 (tgt := 193) (by decide) ?_
          refine r_sub [2, 0] (lv' := [(0, (15, a0)), (2, (2, q137.1))]) rfl ?_
          exact oX5_readSchema_b193 (K := K) (fun r z => k0 r z) (fun _ z => k1 _ z) hr hk
        have hr := ifn hr hs0
        by_cases hs1 : h (h a0 0) 5 = 129
        · have hr := ifp hr hs1
          refine r_tableIn dX5_readSchema_68 (by omega) (by omega) (off := 76) (by rw [hs1]; rfl) (tgt := 144) (by decide) ?_
          refine r_aload_n dX5_readSchema_144 rfl 1 rfl (nl rfl) ?_
          obtain ⟨q145, hg145, hr⟩ := bnd hr
          refine k_V (ci := 5) (o := a0) (T := TX5) (as := []) (rest := []) (X := (some (2, q145.1), q145.2)) (oX5_readKey hg145) gX5_readKey rfl (by decide) rfl (wsl_17 _ (List.mem_of_getElem? (i := 23) rfl)) rfl dX5_readSchema_145 rfl ?_
          refine r_istore_n dX5_readSchema_148 rfl (Or.inr rfl) (by decide) (lv' := [(2, (2, q145.1)), (1, (0, h (h a0 0) 5)), (0, (15, a0))]) rfl ?_
          refine r_goto dX5_readSchema_149 (tgt := 193) (by decide) ?_
          refine r_sub [2, 0] (lv' := [(0, (15, a0)), (2, (2, q145.1))]) rfl ?_
          exact oX5_readSchema_b193 (K := K) (fun r z => k0 r z) (fun _ z => k1 _ z) hr hk
        have hr := ifn hr hs1
        by_cases hs2 : h (h a0 0) 5 = 130
        · have hr := ifp hr hs2
          refine r_tableIn dX5_readSchema_68 (by omega) (by omega) (off := 84) (by rw [hs2]; rfl) (tgt := 152) (by decide) ?_
          refine r_aload_n dX5_readSchema_152 rfl 1 rfl (nl rfl) ?_
          obtain ⟨q153, hg153, hr⟩ := bnd hr
          refine k_V (ci := 5) (o := a0) (T := TX5) (as := []) (rest := []) (X := (some (2, q153.1), q153.2)) (oX5_readRef hg153) gX5_readRef rfl (by decide) rfl (wsl_19 _ (List.mem_of_getElem? (i := 5) rfl)) rfl dX5_readSchema_153 rfl ?_
          refine r_istore_n dX5_readSchema_156 rfl (Or.inr rfl) (by decide) (lv' := [(2, (2, q153.1)), (1, (0, h (h a0 0) 5)), (0, (15, a0))]) rfl ?_
          refine r_goto dX5_readSchema_157 (tgt := 193) (by decide) ?_
          refine r_sub [2, 0] (lv' := [(0, (15, a0)), (2, (2, q153.1))]) rfl ?_
          exact oX5_readSchema_b193 (K := K) (fun r z => k0 r z) (fun _ z => k1 _ z) hr hk
        have hr := ifn hr hs2
        by_cases hs3 : h (h a0 0) 5 = 131
        · have hr := ifp hr hs3
          refine r_tableIn dX5_readSchema_68 (by omega) (by omega) (off := 116) (by rw [hs3]; rfl) (tgt := 184) (by decide) ?_
          refine r_aload_n dX5_readSchema_184 rfl 1 rfl (nl rfl) ?_
          refine r_get 5 0 (o := a0) (w := (19, h a0 0)) (T := TX5) (ref := "FollowingRefs$SchemaReader") rfl (by decide) rfl (by decide) inlX5 (wsl_5 _ (List.mem_of_getElem? (i := 0) rfl)) rfl dX5_readSchema_185 rfl ?_
          refine r_iconst dX5_readSchema_188 (by decide) ?_
          obtain ⟨q189, hg189, hr⟩ := bnd hr
          refine k_V (ci := 9) (o := h a0 0) (T := TX9) (as := [(0, 1)]) (rest := []) (X := (some (2, q189.1), q189.2)) (oX9_fail hg189) gX9_fail rfl (by decide) rfl (wsl_16 _ (List.mem_of_getElem? (i := 10) rfl)) rfl dX5_readSchema_189 rfl ?_
          refine r_istore_n dX5_readSchema_192 rfl (Or.inr rfl) (by decide) (lv' := [(2, (2, q189.1)), (1, (0, h (h a0 0) 5)), (0, (15, a0))]) rfl ?_
          refine r_sub [2, 0] (lv' := [(0, (15, a0)), (2, (2, q189.1))]) rfl ?_
          exact oX5_readSchema_b193 (K := K) (fun r z => k0 r z) (fun _ z => k1 _ z) hr hk
        have hr := ifn hr hs3
        by_cases hs4 : h (h a0 0) 5 = 132
        · have hr := ifp hr hs4
          refine r_tableIn dX5_readSchema_68 (by omega) (by omega) (off := 116) (by rw [hs4]; rfl) (tgt := 184) (by decide) ?_
          refine r_aload_n dX5_readSchema_184 rfl 1 rfl (nl rfl) ?_
          refine r_get 5 0 (o := a0) (w := (19, h a0 0)) (T := TX5) (ref := "FollowingRefs$SchemaReader") rfl (by decide) rfl (by decide) inlX5 (wsl_5 _ (List.mem_of_getElem? (i := 0) rfl)) rfl dX5_readSchema_185 rfl ?_
          refine r_iconst dX5_readSchema_188 (by decide) ?_
          obtain ⟨q189, hg189, hr⟩ := bnd hr
          refine k_V (ci := 9) (o := h a0 0) (T := TX9) (as := [(0, 1)]) (rest := []) (X := (some (2, q189.1), q189.2)) (oX9_fail hg189) gX9_fail rfl (by decide) rfl (wsl_16 _ (List.mem_of_getElem? (i := 10) rfl)) rfl dX5_readSchema_189 rfl ?_
          refine r_istore_n dX5_readSchema_192 rfl (Or.inr rfl) (by decide) (lv' := [(2, (2, q189.1)), (1, (0, h (h a0 0) 5)), (0, (15, a0))]) rfl ?_
          refine r_sub [2, 0] (lv' := [(0, (15, a0)), (2, (2, q189.1))]) rfl ?_
          exact oX5_readSchema_b193 (K := K) (fun r z => k0 r z) (fun _ z => k1 _ z) hr hk
        have hr := ifn hr hs4
        by_cases hs5 : h (h a0 0) 5 = 133
        · have hr := ifp hr hs5
          refine r_tableIn dX5_readSchema_68 (by omega) (by omega) (off := 116) (by rw [hs5]; rfl) (tgt := 184) (by decide) ?_
          refine r_aload_n dX5_readSchema_184 rfl 1 rfl (nl rfl) ?_
          refine r_get 5 0 (o := a0) (w := (19, h a0 0)) (T := TX5) (ref := "FollowingRefs$SchemaReader") rfl (by decide) rfl (by decide) inlX5 (wsl_5 _ (List.mem_of_getElem? (i := 0) rfl)) rfl dX5_readSchema_185 rfl ?_
          refine r_iconst dX5_readSchema_188 (by decide) ?_
          obtain ⟨q189, hg189, hr⟩ := bnd hr
          refine k_V (ci := 9) (o := h a0 0) (T := TX9) (as := [(0, 1)]) (rest := []) (X := (some (2, q189.1), q189.2)) (oX9_fail hg189) gX9_fail rfl (by decide) rfl (wsl_16 _ (List.mem_of_getElem? (i := 10) rfl)) rfl dX5_readSchema_189 rfl ?_
          refine r_istore_n dX5_readSchema_192 rfl (Or.inr rfl) (by decide) (lv' := [(2, (2, q189.1)), (1, (0, h (h a0 0) 5)), (0, (15, a0))]) rfl ?_
          refine r_sub [2, 0] (lv' := [(0, (15, a0)), (2, (2, q189.1))]) rfl ?_
          exact oX5_readSchema_b193 (K := K) (fun r z => k0 r z) (fun _ z => k1 _ z) hr hk
        have hr := ifn hr hs5
        by_cases hs6 : h (h a0 0) 5 = 134
        · have hr := ifp hr hs6
          refine r_tableIn dX5_readSchema_68 (by omega) (by omega) (off := 116) (by rw [hs6]; rfl) (tgt := 184) (by decide) ?_
          refine r_aload_n dX5_readSchema_184 rfl 1 rfl (nl rfl) ?_
          refine r_get 5 0 (o := a0) (w := (19, h a0 0)) (T := TX5) (ref := "FollowingRefs$SchemaReader") rfl (by decide) rfl (by decide) inlX5 (wsl_5 _ (List.mem_of_getElem? (i := 0) rfl)) rfl dX5_readSchema_185 rfl ?_
          refine r_iconst dX5_readSchema_188 (by decide) ?_
          obtain ⟨q189, hg189, hr⟩ := bnd hr
          refine k_V (ci := 9) (o := h a0 0) (T := TX9) (as := [(0, 1)]) (rest := []) (X := (some (2, q189.1), q189.2)) (oX9_fail hg189) gX9_fail rfl (by decide) rfl (wsl_16 _ (List.mem_of_getElem? (i := 10) rfl)) rfl dX5_readSchema_189 rfl ?_
          refine r_istore_n dX5_readSchema_192 rfl (Or.inr rfl) (by decide) (lv' := [(2, (2, q189.1)), (1, (0, h (h a0 0) 5)), (0, (15, a0))]) rfl ?_
          refine r_sub [2, 0] (lv' := [(0, (15, a0)), (2, (2, q189.1))]) rfl ?_
          exact oX5_readSchema_b193 (K := K) (fun r z => k0 r z) (fun _ z => k1 _ z) hr hk
        have hr := ifn hr hs6
        by_cases hs7 : h (h a0 0) 5 = 135
        · have hr := ifp hr hs7
          refine r_tableIn dX5_readSchema_68 (by omega) (by omega) (off := 116) (by rw [hs7]; rfl) (tgt := 184) (by decide) ?_
          refine r_aload_n dX5_readSchema_184 rfl 1 rfl (nl rfl) ?_
          refine r_get 5 0 (o := a0) (w := (19, h a0 0)) (T := TX5) (ref := "FollowingRefs$SchemaReader") rfl (by decide) rfl (by decide) inlX5 (wsl_5 _ (List.mem_of_getElem? (i := 0) rfl)) rfl dX5_readSchema_185 rfl ?_
          refine r_iconst dX5_readSchema_188 (by decide) ?_
          obtain ⟨q189, hg189, hr⟩ := bnd hr
          refine k_V (ci := 9) (o := h a0 0) (T := TX9) (as := [(0, 1)]) (rest := []) (X := (some (2, q189.1), q189.2)) (oX9_fail hg189) gX9_fail rfl (by decide) rfl (wsl_16 _ (List.mem_of_getElem? (i := 10) rfl)) rfl dX5_readSchema_189 rfl ?_
          refine r_istore_n dX5_readSchema_192 rfl (Or.inr rfl) (by decide) (lv' := [(2, (2, q189.1)), (1, (0, h (h a0 0) 5)), (0, (15, a0))]) rfl ?_
          refine r_sub [2, 0] (lv' := [(0, (15, a0)), (2, (2, q189.1))]) rfl ?_
          exact oX5_readSchema_b193 (K := K) (fun r z => k0 r z) (fun _ z => k1 _ z) hr hk
        have hr := ifn hr hs7
        by_cases hs8 : h (h a0 0) 5 = 136
        · have hr := ifp hr hs8
          refine r_tableIn dX5_readSchema_68 (by omega) (by omega) (off := 116) (by rw [hs8]; rfl) (tgt := 184) (by decide) ?_
          refine r_aload_n dX5_readSchema_184 rfl 1 rfl (nl rfl) ?_
          refine r_get 5 0 (o := a0) (w := (19, h a0 0)) (T := TX5) (ref := "FollowingRefs$SchemaReader") rfl (by decide) rfl (by decide) inlX5 (wsl_5 _ (List.mem_of_getElem? (i := 0) rfl)) rfl dX5_readSchema_185 rfl ?_
          refine r_iconst dX5_readSchema_188 (by decide) ?_
          obtain ⟨q189, hg189, hr⟩ := bnd hr
          refine k_V (ci := 9) (o := h a0 0) (T := TX9) (as := [(0, 1)]) (rest := []) (X := (some (2, q189.1), q189.2)) (oX9_fail hg189) gX9_fail rfl (by decide) rfl (wsl_16 _ (List.mem_of_getElem? (i := 10) rfl)) rfl dX5_readSchema_189 rfl ?_
          refine r_istore_n dX5_readSchema_192 rfl (Or.inr rfl) (by decide) (lv' := [(2, (2, q189.1)), (1, (0, h (h a0 0) 5)), (0, (15, a0))]) rfl ?_
          refine r_sub [2, 0] (lv' := [(0, (15, a0)), (2, (2, q189.1))]) rfl ?_
          exact oX5_readSchema_b193 (K := K) (fun r z => k0 r z) (fun _ z => k1 _ z) hr hk
        have hr := ifn hr hs8
        by_cases hs9 : h (h a0 0) 5 = 137
        · have hr := ifp hr hs9
          refine r_tableIn dX5_readSchema_68 (by omega) (by omega) (off := 116) (by rw [hs9]; rfl) (tgt := 184) (by decide) ?_
          refine r_aload_n dX5_readSchema_184 rfl 1 rfl (nl rfl) ?_
          refine r_get 5 0 (o := a0) (w := (19, h a0 0)) (T := TX5) (ref := "FollowingRefs$SchemaReader") rfl (by decide) rfl (by decide) inlX5 (wsl_5 _ (List.mem_of_getElem? (i := 0) rfl)) rfl dX5_readSchema_185 rfl ?_
          refine r_iconst dX5_readSchema_188 (by decide) ?_
          obtain ⟨q189, hg189, hr⟩ := bnd hr
          refine k_V (ci := 9) (o := h a0 0) (T := TX9) (as := [(0, 1)]) (rest := []) (X := (some (2, q189.1), q189.2)) (oX9_fail hg189) gX9_fail rfl (by decide) rfl (wsl_16 _ (List.mem_of_getElem? (i := 10) rfl)) rfl dX5_readSchema_189 rfl ?_
          refine r_istore_n dX5_readSchema_192 rfl (Or.inr rfl) (by decide) (lv' := [(2, (2, q189.1)), (1, (0, h (h a0 0) 5)), (0, (15, a0))]) rfl ?_
          refine r_sub [2, 0] (lv' := [(0, (15, a0)), (2, (2, q189.1))]) rfl ?_
          exact oX5_readSchema_b193 (K := K) (fun r z => k0 r z) (fun _ z => k1 _ z) hr hk
        have hr := ifn hr hs9
        by_cases hs10 : h (h a0 0) 5 = 138
        · have hr := ifp hr hs10
          refine r_tableIn dX5_readSchema_68 (by omega) (by omega) (off := 92) (by rw [hs10]; rfl) (tgt := 160) (by decide) ?_
          refine r_aload_n dX5_readSchema_160 rfl 1 rfl (nl rfl) ?_
          obtain ⟨q161, hg161, hr⟩ := bnd hr
          refine k_V (ci := 5) (o := a0) (T := TX5) (as := []) (rest := []) (X := (some (2, q161.1), q161.2)) (oX5_readDefault hg161) gX5_readDefault rfl (by decide) rfl (wsl_20 _ (List.mem_of_getElem? (i := 13) rfl)) rfl dX5_readSchema_161 rfl ?_
          refine r_istore_n dX5_readSchema_164 rfl (Or.inr rfl) (by decide) (lv' := [(2, (2, q161.1)), (1, (0, h (h a0 0) 5)), (0, (15, a0))]) rfl ?_
          refine r_goto dX5_readSchema_165 (tgt := 193) (by decide) ?_
          refine r_sub [2, 0] (lv' := [(0, (15, a0)), (2, (2, q161.1))]) rfl ?_
          exact oX5_readSchema_b193 (K := K) (fun r z => k0 r z) (fun _ z => k1 _ z) hr hk
        have hr := ifn hr hs10
        by_cases hs11 : h (h a0 0) 5 = 139
        · have hr := ifp hr hs11
          refine r_tableIn dX5_readSchema_68 (by omega) (by omega) (off := 100) (by rw [hs11]; rfl) (tgt := 168) (by decide) ?_
          refine r_aload_n dX5_readSchema_168 rfl 1 rfl (nl rfl) ?_
          obtain ⟨q169, hg169, hr⟩ := bnd hr
          refine k_V (ci := 5) (o := a0) (T := TX5) (as := []) (rest := []) (X := (some (2, q169.1), q169.2)) (oX5_readNeed hg169) gX5_readNeed rfl (by decide) rfl (wsl_21 _ (List.mem_of_getElem? (i := 7) rfl)) rfl dX5_readSchema_169 rfl ?_
          refine r_istore_n dX5_readSchema_172 rfl (Or.inr rfl) (by decide) (lv' := [(2, (2, q169.1)), (1, (0, h (h a0 0) 5)), (0, (15, a0))]) rfl ?_
          refine r_goto dX5_readSchema_173 (tgt := 193) (by decide) ?_
          refine r_sub [2, 0] (lv' := [(0, (15, a0)), (2, (2, q169.1))]) rfl ?_
          exact oX5_readSchema_b193 (K := K) (fun r z => k0 r z) (fun _ z => k1 _ z) hr hk
        have hr := ifn hr hs11
        by_cases hs12 : h (h a0 0) 5 = 140
        · have hr := ifp hr hs12
          refine r_tableIn dX5_readSchema_68 (by omega) (by omega) (off := 108) (by rw [hs12]; rfl) (tgt := 176) (by decide) ?_
          refine r_aload_n dX5_readSchema_176 rfl 1 rfl (nl rfl) ?_
          obtain ⟨q177, hg177, hr⟩ := bnd hr
          refine k_V (ci := 5) (o := a0) (T := TX5) (as := []) (rest := []) (X := (some (2, q177.1), q177.2)) (oX5_readCheck hg177) gX5_readCheck rfl (by decide) rfl (wsl_21 _ (List.mem_of_getElem? (i := 16) rfl)) rfl dX5_readSchema_177 rfl ?_
          refine r_istore_n dX5_readSchema_180 rfl (Or.inr rfl) (by decide) (lv' := [(2, (2, q177.1)), (1, (0, h (h a0 0) 5)), (0, (15, a0))]) rfl ?_
          refine r_goto dX5_readSchema_181 (tgt := 193) (by decide) ?_
          refine r_sub [2, 0] (lv' := [(0, (15, a0)), (2, (2, q177.1))]) rfl ?_
          exact oX5_readSchema_b193 (K := K) (fun r z => k0 r z) (fun _ z => k1 _ z) hr hk
        have hr := ifn hr hs12
        refine r_tableOut dX5_readSchema_68 (by omega) (tgt := 184) (by decide) ?_
        refine r_aload_n dX5_readSchema_184 rfl 1 rfl (nl rfl) ?_
        refine r_get 5 0 (o := a0) (w := (19, h a0 0)) (T := TX5) (ref := "FollowingRefs$SchemaReader") rfl (by decide) rfl (by decide) inlX5 (wsl_5 _ (List.mem_of_getElem? (i := 0) rfl)) rfl dX5_readSchema_185 rfl ?_
        refine r_iconst dX5_readSchema_188 (by decide) ?_
        obtain ⟨q189, hg189, hr⟩ := bnd hr
        refine k_V (ci := 9) (o := h a0 0) (T := TX9) (as := [(0, 1)]) (rest := []) (X := (some (2, q189.1), q189.2)) (oX9_fail hg189) gX9_fail rfl (by decide) rfl (wsl_16 _ (List.mem_of_getElem? (i := 10) rfl)) rfl dX5_readSchema_189 rfl ?_
        refine r_istore_n dX5_readSchema_192 rfl (Or.inr rfl) (by decide) (lv' := [(2, (2, q189.1)), (1, (0, h (h a0 0) 5)), (0, (15, a0))]) rfl ?_
        refine r_sub [2, 0] (lv' := [(0, (15, a0)), (2, (2, q189.1))]) rfl ?_
        exact oX5_readSchema_b193 (K := K) (fun r z => k0 r z) (fun _ z => k1 _ z) hr hk
      · have hr := ifn hr hc
        refine r_aload_n dX5_readSchema_58 rfl 1 rfl (nl rfl) ?_
        refine r_get 5 0 (o := a0) (w := (19, h a0 0)) (T := TX5) (ref := "FollowingRefs$SchemaReader") rfl (by decide) rfl (by decide) inlX5 (wsl_5 _ (List.mem_of_getElem? (i := 0) rfl)) rfl dX5_readSchema_59 rfl ?_
        refine r_iconst dX5_readSchema_62 (by decide) ?_
        obtain ⟨q63, hg63, hr⟩ := bnd hr
        refine k_V (ci := 9) (o := h a0 0) (T := TX9) (as := [(0, 4)]) (rest := []) (X := (some (2, q63.1), q63.2)) (oX9_fail hg63) gX9_fail rfl (by decide) rfl (wsl_16 _ (List.mem_of_getElem? (i := 10) rfl)) rfl dX5_readSchema_63 rfl ?_
        obtain rfl := Option.some.inj hr
        exact r_ret dX5_readSchema_66 rfl (Or.inr ⟨rfl, rfl⟩) (k0 _ hk) ⟨rfl, rfl⟩
set_option maxRecDepth 100000 in
set_option maxHeartbeats 4000000 in
theorem oX5_readSchema_b0 {a0 : Int} {K : Int × hH → Prop} (k0 : ∀ r, K (r) → x = (some (2, r.1), r.2)) {r : Int × hH} (hr : fX5_readSchema h a0 = some r) (hk : K r) : Wq p l e R s m args below meth c D G A H0 true n0 M_X5_readSchema x 0 0 0 [(0, (15, a0))] [] h := by
  unfold fX5_readSchema at hr
  refine r_aload_n dX5_readSchema_0 rfl 0 rfl (nl rfl) ?_
  refine r_get 5 1 (o := a0) (w := (14, h a0 1)) (T := TX5) (ref := "FollowingRefs$SchemaReader") rfl (by decide) rfl (by decide) inlX5 (wsl_4 _ (List.mem_of_getElem? (i := 23) rfl)) rfl dX5_readSchema_1 rfl ?_
  obtain ⟨h4, hg4, hr⟩ := bnd hr
  refine k_V (ci := 4) (o := h a0 1) (T := TX4) (as := []) (rest := []) (X := (none, h4)) (oX4_reset hg4) gX4_reset rfl (by decide) rfl (wsl_11 _ (List.mem_of_getElem? (i := 15) rfl)) rfl dX5_readSchema_4 rfl ?_
  refine r_aload_n dX5_readSchema_7 rfl 0 rfl (nl rfl) ?_
  refine r_iconst dX5_readSchema_8 (by decide) ?_
  obtain ⟨h9, hg9, hr⟩ := bnd hr
  refine r_put' 5 2 (t := 0) (ref := "FollowingRefs$SchemaReader") hg9 rfl tyX5 tyX5_ok nmX5 rfl (by decide) rfl (by decide) inlX5 (wsl_11 _ (List.mem_of_getElem? (i := 13) rfl)) rfl rfl (by decide +kernel) (by decide) rfl (Or.inl ⟨rfl, rfl⟩) dX5_readSchema_9 ?_
  refine r_aload_n dX5_readSchema_12 rfl 0 rfl (nl rfl) ?_
  refine r_get 5 0 (o := a0) (w := (19, h9 a0 0)) (T := TX5) (ref := "FollowingRefs$SchemaReader") rfl (by decide) rfl (by decide) inlX5 (wsl_5 _ (List.mem_of_getElem? (i := 0) rfl)) rfl dX5_readSchema_13 rfl ?_
  refine r_sipush dX5_readSchema_16 (by decide) (by decide) ?_
  obtain ⟨h19, hg19, hr⟩ := bnd hr
  refine k_V (ci := 9) (o := h9 a0 0) (T := TX9) (as := [(0, 900)]) (rest := []) (X := (none, h19)) (oX9_start hg19) gX9_start rfl (by decide) rfl (wsl_12 _ (List.mem_of_getElem? (i := 0) rfl)) rfl dX5_readSchema_19 rfl ?_
  exact lp_ok (w := fun (q : hH) => Wq p l e R s m args below meth c D G A H0 true n0 M_X5_readSchema x 0 0 22 [(0, (15, a0))] [] (q)) (K := K) (fun q r h1 h2 => oX5_readSchema_s22 (K := Sum.elim (fun (q : hH) => Wq p l e R s m args below meth c D G A H0 true n0 M_X5_readSchema x 0 0 22 [(0, (15, a0))] [] (q)) (K)) (fun r z => k0 r z) (fun _ z => z) h1 h2) hr hk
end M_X5_readSchema
theorem oX5_readSchema {l : Launch} {D : va_G} {G : gG} {h : hH} {a0 : Int} {r : Int × hH} (hr : fX5_readSchema h a0 = some r) : Ctr l D G true yX5_readSchema M_X5_readSchema [(15, a0)] h (some (2, r.1), r.2) :=
  Ctr_of (by decide) rfl (fun z => by cases z) (nl rfl) (fun {p e R s m args below meth c A H0} => by
    exact oX5_readSchema_b0 (K := fun z9 => z9 = r) (fun r9 z => by rw [z]) hr rfl)
/-! X6_reset -/
theorem dX6_reset_0 : decode cX6_reset 0 = .ok (.aload_n 0, 1) := by decide +kernel
theorem dX6_reset_1 : decode cX6_reset 1 = .ok (.iconst 0, 1) := by decide +kernel
theorem dX6_reset_2 : decode cX6_reset 2 = .ok (.putfield 15, 3) := by decide +kernel
theorem dX6_reset_5 : decode cX6_reset 5 = .ok (.aload_n 0, 1) := by decide +kernel
theorem dX6_reset_6 : decode cX6_reset 6 = .ok (.iconst 0, 1) := by decide +kernel
theorem dX6_reset_7 : decode cX6_reset 7 = .ok (.putfield 19, 3) := by decide +kernel
theorem dX6_reset_10 : decode cX6_reset 10 = .ok (.aload_n 0, 1) := by decide +kernel
theorem dX6_reset_11 : decode cX6_reset 11 = .ok (.iconst 0, 1) := by decide +kernel
theorem dX6_reset_12 : decode cX6_reset 12 = .ok (.putfield 23, 3) := by decide +kernel
theorem dX6_reset_15 : decode cX6_reset 15 = .ok (.return_, 1) := by decide +kernel
abbrev M_X6_reset : mM := (cX6_reset, 1, RX6, none, false, 0, 0, 0, 0)
theorem gX6_reset : cI yX6_reset M_X6_reset 0 := ⟨(wsl_23 _ (List.mem_of_getElem? (i := 2) rfl)), (wsl_23 _ (List.mem_of_getElem? (i := 3) rfl)), (wsl_2 _ (List.mem_of_getElem? (i := 3) rfl)), (wsl_23 _ (List.mem_of_getElem? (i := 4) rfl)), by decide +kernel⟩
noncomputable def fX6_reset (h : hH) (a0 : Int) : Option (hH) :=
  (pput h a0 0 0).bind fun h2 =>
  (pput h2 a0 1 0).bind fun h7 =>
  (pput h7 a0 2 0).bind fun h12 =>
  some h12
section M_X6_reset
variable {p : Program} {l : Launch} {e : Env} {R : Room} {s : State} {m : MethodId} {args : Array Value} {below : List Frame} {meth : Method} {c : Code} {D : va_G} {G : gG} {A : Nat → Prop} {H0 : Heap} {n0 : Int} {x : Option vV × hH} {h : hH}
set_option maxRecDepth 100000 in
set_option maxHeartbeats 4000000 in
theorem oX6_reset_b0 {a0 : Int} {K : hH → Prop} (k0 : ∀ r, K (r) → x = (none, r)) {r : hH} (hr : fX6_reset h a0 = some r) (hk : K r) : Wq p l e R s m args below meth c D G A H0 true n0 M_X6_reset x 0 0 0 [(0, (16, a0))] [] h := by
  unfold fX6_reset at hr
  refine r_aload_n dX6_reset_0 rfl 0 rfl (nl rfl) ?_
  refine r_iconst dX6_reset_1 (by decide) ?_
  refine r_scast 0 (v := (0, 0)) (w := (2, 0)) rfl cz (fun _ => Or.inl rfl) (st' := [(2, 0), (16, a0)]) rfl ?_
  obtain ⟨h2, hg2, hr⟩ := bnd hr
  refine r_put' 6 0 (t := 2) (ref := "FollowingRefs$Sentence") hg2 rfl tyX6 tyX6_ok nmX6 rfl (by decide) rfl (by decide) inlX6 (wsl_23 _ (List.mem_of_getElem? (i := 5) rfl)) rfl rfl (by decide +kernel) (by decide) rfl (Or.inr (Or.inr (Or.inl ⟨rfl, rfl⟩))) dX6_reset_2 ?_
  refine r_aload_n dX6_reset_5 rfl 0 rfl (nl rfl) ?_
  refine r_iconst dX6_reset_6 (by decide) ?_
  obtain ⟨h7, hg7, hr⟩ := bnd hr
  refine r_put' 6 1 (t := 0) (ref := "FollowingRefs$Sentence") hg7 rfl tyX6 tyX6_ok nmX6 rfl (by decide) rfl (by decide) inlX6 (wsl_23 _ (List.mem_of_getElem? (i := 6) rfl)) rfl rfl (by decide +kernel) (by decide) rfl (Or.inl ⟨rfl, rfl⟩) dX6_reset_7 ?_
  refine r_aload_n dX6_reset_10 rfl 0 rfl (nl rfl) ?_
  refine r_iconst dX6_reset_11 (by decide) ?_
  obtain ⟨h12, hg12, hr⟩ := bnd hr
  refine r_put' 6 2 (t := 0) (ref := "FollowingRefs$Sentence") hg12 rfl tyX6 tyX6_ok nmX6 rfl (by decide) rfl (by decide) inlX6 (wsl_23 _ (List.mem_of_getElem? (i := 7) rfl)) rfl rfl (by decide +kernel) (by decide) rfl (Or.inl ⟨rfl, rfl⟩) dX6_reset_12 ?_
  obtain rfl := Option.some.inj hr
  exact r_vret dX6_reset_15 rfl (k0 _ hk) ⟨rfl, rfl⟩
end M_X6_reset
theorem oX6_reset {l : Launch} {D : va_G} {G : gG} {h : hH} {a0 : Int} {r : hH} (hr : fX6_reset h a0 = some r) : Ctr l D G true yX6_reset M_X6_reset [(16, a0)] h (none, r) :=
  Ctr_of (by decide) rfl (fun z => by cases z) (nl rfl) (fun {p e R s m args below meth c A H0} => by
    exact oX6_reset_b0 (K := fun z9 => z9 = r) (fun r9 z => by rw [z]) hr rfl)
/-! X6_copyFrom -/
theorem dX6_copyFrom_0 : decode cX6_copyFrom 0 = .ok (.aload_n 0, 1) := by decide +kernel
theorem dX6_copyFrom_1 : decode cX6_copyFrom 1 = .ok (.aload_n 1, 1) := by decide +kernel
theorem dX6_copyFrom_2 : decode cX6_copyFrom 2 = .ok (.getfield 15, 3) := by decide +kernel
theorem dX6_copyFrom_5 : decode cX6_copyFrom 5 = .ok (.putfield 15, 3) := by decide +kernel
theorem dX6_copyFrom_8 : decode cX6_copyFrom 8 = .ok (.aload_n 0, 1) := by decide +kernel
theorem dX6_copyFrom_9 : decode cX6_copyFrom 9 = .ok (.aload_n 1, 1) := by decide +kernel
theorem dX6_copyFrom_10 : decode cX6_copyFrom 10 = .ok (.getfield 19, 3) := by decide +kernel
theorem dX6_copyFrom_13 : decode cX6_copyFrom 13 = .ok (.putfield 19, 3) := by decide +kernel
theorem dX6_copyFrom_16 : decode cX6_copyFrom 16 = .ok (.aload_n 0, 1) := by decide +kernel
theorem dX6_copyFrom_17 : decode cX6_copyFrom 17 = .ok (.aload_n 1, 1) := by decide +kernel
theorem dX6_copyFrom_18 : decode cX6_copyFrom 18 = .ok (.getfield 23, 3) := by decide +kernel
theorem dX6_copyFrom_21 : decode cX6_copyFrom 21 = .ok (.putfield 23, 3) := by decide +kernel
theorem dX6_copyFrom_24 : decode cX6_copyFrom 24 = .ok (.aload_n 1, 1) := by decide +kernel
theorem dX6_copyFrom_25 : decode cX6_copyFrom 25 = .ok (.getfield 9, 3) := by decide +kernel
theorem dX6_copyFrom_28 : decode cX6_copyFrom 28 = .ok (.aload_n 0, 1) := by decide +kernel
theorem dX6_copyFrom_29 : decode cX6_copyFrom 29 = .ok (.getfield 9, 3) := by decide +kernel
theorem dX6_copyFrom_32 : decode cX6_copyFrom 32 = .ok (.invokestatic 26, 3) := by decide +kernel
theorem dX6_copyFrom_35 : decode cX6_copyFrom 35 = .ok (.return_, 1) := by decide +kernel
abbrev M_X6_copyFrom : mM := (cX6_copyFrom, 2, RX6, none, false, 2, 105, 0, 0)
theorem gX6_copyFrom : cI yX6_copyFrom M_X6_copyFrom 1 := ⟨(wsl_68 _ (List.mem_of_getElem? (i := 15) rfl)), (wsl_68 _ (List.mem_of_getElem? (i := 16) rfl)), (wsl_2 _ (List.mem_of_getElem? (i := 3) rfl)), (wsl_68 _ (List.mem_of_getElem? (i := 17) rfl)), by decide +kernel⟩
noncomputable def fX6_copyFrom (h : hH) (a0 a1 : Int) : Option (hH) :=
  (pput h a0 0 (h a1 0)).bind fun h5 =>
  (pput h5 a0 1 (h5 a1 1)).bind fun h13 =>
  (pput h13 a0 2 (h13 a1 2)).bind fun h21 =>
  (fX11_copy h21 (h21 a1 3) (h21 a0 3)).bind fun h32 =>
  some h32
section M_X6_copyFrom
variable {p : Program} {l : Launch} {e : Env} {R : Room} {s : State} {m : MethodId} {args : Array Value} {below : List Frame} {meth : Method} {c : Code} {D : va_G} {G : gG} {A : Nat → Prop} {H0 : Heap} {n0 : Int} {x : Option vV × hH} {h : hH}
set_option maxRecDepth 100000 in
set_option maxHeartbeats 4000000 in
theorem oX6_copyFrom_b0 {a0 a1 : Int} {K : hH → Prop} (k0 : ∀ r, K (r) → x = (none, r)) {r : hH} (hr : fX6_copyFrom h a0 a1 = some r) (hk : K r) : Wq p l e R s m args below meth c D G A H0 true n0 M_X6_copyFrom x 0 0 0 [(0, (16, a0)), (1, (16, a1))] [] h := by
  unfold fX6_copyFrom at hr
  refine r_aload_n dX6_copyFrom_0 rfl 0 rfl (nl rfl) ?_
  refine r_aload_n dX6_copyFrom_1 rfl 1 rfl (nl rfl) ?_
  refine r_get 6 0 (o := a1) (w := (2, h a1 0)) (T := TX6) (ref := "FollowingRefs$Sentence") rfl (by decide) rfl (by decide) inlX6 (wsl_23 _ (List.mem_of_getElem? (i := 5) rfl)) rfl dX6_copyFrom_2 rfl ?_
  obtain ⟨h5, hg5, hr⟩ := bnd hr
  refine r_put' 6 0 (t := 2) (ref := "FollowingRefs$Sentence") hg5 rfl tyX6 tyX6_ok nmX6 rfl (by decide) rfl (by decide) inlX6 (wsl_23 _ (List.mem_of_getElem? (i := 5) rfl)) rfl rfl (by decide +kernel) (by decide) rfl (Or.inr (Or.inr (Or.inl ⟨rfl, rfl⟩))) dX6_copyFrom_5 ?_
  refine r_aload_n dX6_copyFrom_8 rfl 0 rfl (nl rfl) ?_
  refine r_aload_n dX6_copyFrom_9 rfl 1 rfl (nl rfl) ?_
  refine r_get 6 1 (o := a1) (w := (0, h5 a1 1)) (T := TX6) (ref := "FollowingRefs$Sentence") rfl (by decide) rfl (by decide) inlX6 (wsl_23 _ (List.mem_of_getElem? (i := 6) rfl)) rfl dX6_copyFrom_10 rfl ?_
  obtain ⟨h13, hg13, hr⟩ := bnd hr
  refine r_put' 6 1 (t := 0) (ref := "FollowingRefs$Sentence") hg13 rfl tyX6 tyX6_ok nmX6 rfl (by decide) rfl (by decide) inlX6 (wsl_23 _ (List.mem_of_getElem? (i := 6) rfl)) rfl rfl (by decide +kernel) (by decide) rfl (Or.inl ⟨rfl, rfl⟩) dX6_copyFrom_13 ?_
  refine r_aload_n dX6_copyFrom_16 rfl 0 rfl (nl rfl) ?_
  refine r_aload_n dX6_copyFrom_17 rfl 1 rfl (nl rfl) ?_
  refine r_get 6 2 (o := a1) (w := (0, h13 a1 2)) (T := TX6) (ref := "FollowingRefs$Sentence") rfl (by decide) rfl (by decide) inlX6 (wsl_23 _ (List.mem_of_getElem? (i := 7) rfl)) rfl dX6_copyFrom_18 rfl ?_
  obtain ⟨h21, hg21, hr⟩ := bnd hr
  refine r_put' 6 2 (t := 0) (ref := "FollowingRefs$Sentence") hg21 rfl tyX6 tyX6_ok nmX6 rfl (by decide) rfl (by decide) inlX6 (wsl_23 _ (List.mem_of_getElem? (i := 7) rfl)) rfl rfl (by decide +kernel) (by decide) rfl (Or.inl ⟨rfl, rfl⟩) dX6_copyFrom_21 ?_
  refine r_aload_n dX6_copyFrom_24 rfl 1 rfl (nl rfl) ?_
  refine r_get 6 3 (o := a1) (w := (50, h21 a1 3)) (T := TX6) (ref := "FollowingRefs$Sentence") rfl (by decide) rfl (by decide) inlX6 (wsl_4 _ (List.mem_of_getElem? (i := 17) rfl)) rfl dX6_copyFrom_25 rfl ?_
  refine r_aload_n dX6_copyFrom_28 rfl 0 rfl (nl rfl) ?_
  refine r_get 6 3 (o := a0) (w := (50, h21 a0 3)) (T := TX6) (ref := "FollowingRefs$Sentence") rfl (by decide) rfl (by decide) inlX6 (wsl_4 _ (List.mem_of_getElem? (i := 17) rfl)) rfl dX6_copyFrom_29 rfl ?_
  obtain ⟨h32, hg32, hr⟩ := bnd hr
  refine k_SN (host := "FollowingRefs") (as := [(50, h21 a1 3), (50, h21 a0 3)]) (rest := []) (X := (none, h32)) (oX11_copy hg32) gX11_copy rfl (List.mem_of_getElem? (i := 27) rfl) rfl dX6_copyFrom_32 rfl ?_
  obtain rfl := Option.some.inj hr
  exact r_vret dX6_copyFrom_35 rfl (k0 _ hk) ⟨rfl, rfl⟩
end M_X6_copyFrom
theorem oX6_copyFrom {l : Launch} {D : va_G} {G : gG} {h : hH} {a0 a1 : Int} {r : hH} (hr : fX6_copyFrom h a0 a1 = some r) : Ctr l D G true yX6_copyFrom M_X6_copyFrom [(16, a0), (16, a1)] h (none, r) :=
  Ctr_of (by decide) rfl (fun z => by cases z) (nl rfl) (fun {p e R s m args below meth c A H0} => by
    exact oX6_copyFrom_b0 (K := fun z9 => z9 = r) (fun r9 z => by rw [z]) hr rfl)
/-! X6_add -/
theorem dX6_add_0 : decode cX6_add 0 = .ok (.aload_n 0, 1) := by decide +kernel
theorem dX6_add_1 : decode cX6_add 1 = .ok (.getfield 9, 3) := by decide +kernel
theorem dX6_add_4 : decode cX6_add 4 = .ok (.iconst 3, 1) := by decide +kernel
theorem dX6_add_5 : decode cX6_add 5 = .ok (.aload_n 0, 1) := by decide +kernel
theorem dX6_add_6 : decode cX6_add 6 = .ok (.getfield 23, 3) := by decide +kernel
theorem dX6_add_9 : decode cX6_add 9 = .ok (.imul, 1) := by decide +kernel
theorem dX6_add_10 : decode cX6_add 10 = .ok (.iload_n 1, 1) := by decide +kernel
theorem dX6_add_11 : decode cX6_add 11 = .ok (.invokestatic 30, 3) := by decide +kernel
theorem dX6_add_14 : decode cX6_add 14 = .ok (.aload_n 0, 1) := by decide +kernel
theorem dX6_add_15 : decode cX6_add 15 = .ok (.getfield 9, 3) := by decide +kernel
theorem dX6_add_18 : decode cX6_add 18 = .ok (.iconst 3, 1) := by decide +kernel
theorem dX6_add_19 : decode cX6_add 19 = .ok (.aload_n 0, 1) := by decide +kernel
theorem dX6_add_20 : decode cX6_add 20 = .ok (.getfield 23, 3) := by decide +kernel
theorem dX6_add_23 : decode cX6_add 23 = .ok (.imul, 1) := by decide +kernel
theorem dX6_add_24 : decode cX6_add 24 = .ok (.iconst 1, 1) := by decide +kernel
theorem dX6_add_25 : decode cX6_add 25 = .ok (.iadd, 1) := by decide +kernel
theorem dX6_add_26 : decode cX6_add 26 = .ok (.iload_n 2, 1) := by decide +kernel
theorem dX6_add_27 : decode cX6_add 27 = .ok (.invokestatic 30, 3) := by decide +kernel
theorem dX6_add_30 : decode cX6_add 30 = .ok (.aload_n 0, 1) := by decide +kernel
theorem dX6_add_31 : decode cX6_add 31 = .ok (.getfield 9, 3) := by decide +kernel
theorem dX6_add_34 : decode cX6_add 34 = .ok (.iconst 3, 1) := by decide +kernel
theorem dX6_add_35 : decode cX6_add 35 = .ok (.aload_n 0, 1) := by decide +kernel
theorem dX6_add_36 : decode cX6_add 36 = .ok (.getfield 23, 3) := by decide +kernel
theorem dX6_add_39 : decode cX6_add 39 = .ok (.imul, 1) := by decide +kernel
theorem dX6_add_40 : decode cX6_add 40 = .ok (.iconst 2, 1) := by decide +kernel
theorem dX6_add_41 : decode cX6_add 41 = .ok (.iadd, 1) := by decide +kernel
theorem dX6_add_42 : decode cX6_add 42 = .ok (.iload_n 3, 1) := by decide +kernel
theorem dX6_add_43 : decode cX6_add 43 = .ok (.invokestatic 30, 3) := by decide +kernel
theorem dX6_add_46 : decode cX6_add 46 = .ok (.aload_n 0, 1) := by decide +kernel
theorem dX6_add_47 : decode cX6_add 47 = .ok (.dup, 1) := by decide +kernel
theorem dX6_add_48 : decode cX6_add 48 = .ok (.getfield 23, 3) := by decide +kernel
theorem dX6_add_51 : decode cX6_add 51 = .ok (.iconst 1, 1) := by decide +kernel
theorem dX6_add_52 : decode cX6_add 52 = .ok (.iadd, 1) := by decide +kernel
theorem dX6_add_53 : decode cX6_add 53 = .ok (.putfield 23, 3) := by decide +kernel
theorem dX6_add_56 : decode cX6_add 56 = .ok (.return_, 1) := by decide +kernel
abbrev M_X6_add : mM := (cX6_add, 4, RX6, none, false, 1, 22, 0, 0)
theorem gX6_add : cI yX6_add M_X6_add 3 := ⟨(wsl_67 _ (List.mem_of_getElem? (i := 10) rfl)), (wsl_67 _ (List.mem_of_getElem? (i := 11) rfl)), (wsl_2 _ (List.mem_of_getElem? (i := 3) rfl)), (wsl_67 _ (List.mem_of_getElem? (i := 12) rfl)), by decide +kernel⟩
noncomputable def fX6_add (h : hH) (a0 a1 a2 a3 : Int) : Option (hH) :=
  (fX11_put h (h a0 3) (w32 (3 * (h a0 2))) a1).bind fun h11 =>
  (fX11_put h11 (h11 a0 3) (w32 ((w32 (3 * (h11 a0 2))) + 1)) a2).bind fun h27 =>
  (fX11_put h27 (h27 a0 3) (w32 ((w32 (3 * (h27 a0 2))) + 2)) a3).bind fun h43 =>
  (pput h43 a0 2 (w32 ((h43 a0 2) + 1))).bind fun h53 =>
  some h53
section M_X6_add
variable {p : Program} {l : Launch} {e : Env} {R : Room} {s : State} {m : MethodId} {args : Array Value} {below : List Frame} {meth : Method} {c : Code} {D : va_G} {G : gG} {A : Nat → Prop} {H0 : Heap} {n0 : Int} {x : Option vV × hH} {h : hH}
set_option maxRecDepth 100000 in
set_option maxHeartbeats 4000000 in
theorem oX6_add_b0 {a0 a1 a2 a3 : Int} {K : hH → Prop} (k0 : ∀ r, K (r) → x = (none, r)) {r : hH} (hr : fX6_add h a0 a1 a2 a3 = some r) (hk : K r) : Wq p l e R s m args below meth c D G A H0 true n0 M_X6_add x 0 0 0 [(0, (16, a0)), (1, (0, a1)), (2, (0, a2)), (3, (0, a3))] [] h := by
  unfold fX6_add at hr
  refine r_aload_n dX6_add_0 rfl 0 rfl (nl rfl) ?_
  refine r_get 6 3 (o := a0) (w := (50, h a0 3)) (T := TX6) (ref := "FollowingRefs$Sentence") rfl (by decide) rfl (by decide) inlX6 (wsl_4 _ (List.mem_of_getElem? (i := 17) rfl)) rfl dX6_add_1 rfl ?_
  refine r_iconst dX6_add_4 (by decide) ?_
  refine r_aload_n dX6_add_5 rfl 0 rfl (nl rfl) ?_
  refine r_get 6 2 (o := a0) (w := (0, h a0 2)) (T := TX6) (ref := "FollowingRefs$Sentence") rfl (by decide) rfl (by decide) inlX6 (wsl_23 _ (List.mem_of_getElem? (i := 7) rfl)) rfl dX6_add_6 rfl ?_
  refine r_imul dX6_add_9 ?_
  refine r_iload_n dX6_add_10 rfl 1 rfl (Or.inl rfl) ?_
  obtain ⟨h11, hg11, hr⟩ := bnd hr
  refine k_SN (host := "FollowingRefs") (as := [(50, h a0 3), (0, w32 (3 * (h a0 2))), (0, a1)]) (rest := []) (X := (none, h11)) (oX11_put hg11) gX11_put rfl (List.mem_of_getElem? (i := 28) rfl) rfl dX6_add_11 rfl ?_
  refine r_aload_n dX6_add_14 rfl 0 rfl (nl rfl) ?_
  refine r_get 6 3 (o := a0) (w := (50, h11 a0 3)) (T := TX6) (ref := "FollowingRefs$Sentence") rfl (by decide) rfl (by decide) inlX6 (wsl_4 _ (List.mem_of_getElem? (i := 17) rfl)) rfl dX6_add_15 rfl ?_
  refine r_iconst dX6_add_18 (by decide) ?_
  refine r_aload_n dX6_add_19 rfl 0 rfl (nl rfl) ?_
  refine r_get 6 2 (o := a0) (w := (0, h11 a0 2)) (T := TX6) (ref := "FollowingRefs$Sentence") rfl (by decide) rfl (by decide) inlX6 (wsl_23 _ (List.mem_of_getElem? (i := 7) rfl)) rfl dX6_add_20 rfl ?_
  refine r_imul dX6_add_23 ?_
  refine r_iconst dX6_add_24 (by decide) ?_
  refine r_iadd dX6_add_25 ?_
  refine r_iload_n dX6_add_26 rfl 2 rfl (Or.inl rfl) ?_
  obtain ⟨h27, hg27, hr⟩ := bnd hr
  refine k_SN (host := "FollowingRefs") (as := [(50, h11 a0 3), (0, w32 ((w32 (3 * (h11 a0 2))) + 1)), (0, a2)]) (rest := []) (X := (none, h27)) (oX11_put hg27) gX11_put rfl (List.mem_of_getElem? (i := 28) rfl) rfl dX6_add_27 rfl ?_
  refine r_aload_n dX6_add_30 rfl 0 rfl (nl rfl) ?_
  refine r_get 6 3 (o := a0) (w := (50, h27 a0 3)) (T := TX6) (ref := "FollowingRefs$Sentence") rfl (by decide) rfl (by decide) inlX6 (wsl_4 _ (List.mem_of_getElem? (i := 17) rfl)) rfl dX6_add_31 rfl ?_
  refine r_iconst dX6_add_34 (by decide) ?_
  refine r_aload_n dX6_add_35 rfl 0 rfl (nl rfl) ?_
  refine r_get 6 2 (o := a0) (w := (0, h27 a0 2)) (T := TX6) (ref := "FollowingRefs$Sentence") rfl (by decide) rfl (by decide) inlX6 (wsl_23 _ (List.mem_of_getElem? (i := 7) rfl)) rfl dX6_add_36 rfl ?_
  refine r_imul dX6_add_39 ?_
  refine r_iconst dX6_add_40 (by decide) ?_
  refine r_iadd dX6_add_41 ?_
  refine r_iload_n dX6_add_42 rfl 3 rfl (Or.inl rfl) ?_
  obtain ⟨h43, hg43, hr⟩ := bnd hr
  refine k_SN (host := "FollowingRefs") (as := [(50, h27 a0 3), (0, w32 ((w32 (3 * (h27 a0 2))) + 2)), (0, a3)]) (rest := []) (X := (none, h43)) (oX11_put hg43) gX11_put rfl (List.mem_of_getElem? (i := 28) rfl) rfl dX6_add_43 rfl ?_
  refine r_aload_n dX6_add_46 rfl 0 rfl (nl rfl) ?_
  refine r_dup dX6_add_47 (Nat.ne_of_beq_eq_false rfl) ?_
  refine r_get 6 2 (o := a0) (w := (0, h43 a0 2)) (T := TX6) (ref := "FollowingRefs$Sentence") rfl (by decide) rfl (by decide) inlX6 (wsl_23 _ (List.mem_of_getElem? (i := 7) rfl)) rfl dX6_add_48 rfl ?_
  refine r_iconst dX6_add_51 (by decide) ?_
  refine r_iadd dX6_add_52 ?_
  obtain ⟨h53, hg53, hr⟩ := bnd hr
  refine r_put' 6 2 (t := 0) (ref := "FollowingRefs$Sentence") hg53 rfl tyX6 tyX6_ok nmX6 rfl (by decide) rfl (by decide) inlX6 (wsl_23 _ (List.mem_of_getElem? (i := 7) rfl)) rfl rfl (by decide +kernel) (by decide) rfl (Or.inl ⟨rfl, rfl⟩) dX6_add_53 ?_
  obtain rfl := Option.some.inj hr
  exact r_vret dX6_add_56 rfl (k0 _ hk) ⟨rfl, rfl⟩
end M_X6_add
theorem oX6_add {l : Launch} {D : va_G} {G : gG} {h : hH} {a0 a1 a2 a3 : Int} {r : hH} (hr : fX6_add h a0 a1 a2 a3 = some r) : Ctr l D G true yX6_add M_X6_add [(16, a0), (0, a1), (0, a2), (0, a3)] h (none, r) :=
  Ctr_of (by decide) rfl (fun z => by cases z) (nl rfl) (fun {p e R s m args below meth c A H0} => by
    exact oX6_add_b0 (K := fun z9 => z9 = r) (fun r9 z => by rw [z]) hr rfl)
/-! X6_isBare -/
theorem dX6_isBare_0 : decode cX6_isBare 0 = .ok (.iconst 0, 1) := by decide +kernel
theorem dX6_isBare_1 : decode cX6_isBare 1 = .ok (.istore_n 3, 1) := by decide +kernel
theorem dX6_isBare_2 : decode cX6_isBare 2 = .ok (.iload_n 3, 1) := by decide +kernel
theorem dX6_isBare_3 : decode cX6_isBare 3 = .ok (.aload_n 0, 1) := by decide +kernel
theorem dX6_isBare_4 : decode cX6_isBare 4 = .ok (.aload_n 1, 1) := by decide +kernel
theorem dX6_isBare_5 : decode cX6_isBare 5 = .ok (.iload_n 2, 1) := by decide +kernel
theorem dX6_isBare_6 : decode cX6_isBare 6 = .ok (.invokevirtual 42, 3) := by decide +kernel
theorem dX6_isBare_9 : decode cX6_isBare 9 = .ok (.invokevirtual 76, 3) := by decide +kernel
theorem dX6_isBare_12 : decode cX6_isBare 12 = .ok (.if_icmp .ge 21, 3) := by decide +kernel
theorem dX6_isBare_15 : decode cX6_isBare 15 = .ok (.aload_n 1, 1) := by decide +kernel
theorem dX6_isBare_16 : decode cX6_isBare 16 = .ok (.iload_n 2, 1) := by decide +kernel
theorem dX6_isBare_17 : decode cX6_isBare 17 = .ok (.iload_n 3, 1) := by decide +kernel
theorem dX6_isBare_18 : decode cX6_isBare 18 = .ok (.invokevirtual 73, 3) := by decide +kernel
theorem dX6_isBare_21 : decode cX6_isBare 21 = .ok (.iconst (-1), 1) := by decide +kernel
theorem dX6_isBare_22 : decode cX6_isBare 22 = .ok (.if_icmp .ne 5, 3) := by decide +kernel
theorem dX6_isBare_25 : decode cX6_isBare 25 = .ok (.iconst 1, 1) := by decide +kernel
theorem dX6_isBare_26 : decode cX6_isBare 26 = .ok (.ireturn, 1) := by decide +kernel
theorem dX6_isBare_27 : decode cX6_isBare 27 = .ok (.iinc 3 1, 3) := by decide +kernel
theorem dX6_isBare_30 : decode cX6_isBare 30 = .ok (.goto (-28), 3) := by decide +kernel
theorem dX6_isBare_33 : decode cX6_isBare 33 = .ok (.iconst 0, 1) := by decide +kernel
theorem dX6_isBare_34 : decode cX6_isBare 34 = .ok (.ireturn, 1) := by decide +kernel
abbrev M_X6_isBare : mM := (cX6_isBare, 4, RX6, some .boolean, false, 1, 23, 0, 0)
theorem gX6_isBare : cS yX6_isBare M_X6_isBare 3 := ⟨(wsl_70 _ (List.mem_of_getElem? (i := 22) rfl)), (wsl_2 _ (List.mem_of_getElem? (i := 3) rfl)), (wsl_70 _ (List.mem_of_getElem? (i := 23) rfl)), by decide +kernel⟩
noncomputable def fX6_isBare_s2 (h : hH) (a0 a1 a2 : Int) : Int → Option ((Int) ⊕ (Int)) := fun l3 =>
  (fX3_tableAt h a1 a2).bind fun r6 =>
  (fX4_width h a0 r6).bind fun r9 =>
  if l3 < r9 then
    (fX3_value h a1 a2 l3).bind fun r18 =>
    if r18 = -1 then
      some (.inr (1))
    else
      some (.inl (w32 (l3 + 1)))
  else
    some (.inr (0))
noncomputable def fX6_isBare (h : hH) (a0 a1 a2 : Int) : Option (Int) :=
  lpO (fX6_isBare_s2 h a0 a1 a2) 0
section M_X6_isBare
variable {p : Program} {l : Launch} {e : Env} {R : Room} {s : State} {m : MethodId} {args : Array Value} {below : List Frame} {meth : Method} {c : Code} {D : va_G} {G : gG} {A : Nat → Prop} {H0 : Heap} {n0 : Int} {x : Option vV × hH} {h : hH}
set_option maxRecDepth 100000 in
set_option maxHeartbeats 4000000 in
theorem oX6_isBare_s2 {a0 a1 a2 l3 : Int} {K : (Int) ⊕ (Int) → Prop} (k0 : ∀ r, K (.inr (r)) → x = (some (2, r), h)) (k1 : ∀ (l3 : Int), K (.inl l3) → Wq p l e R s m args below meth c D G A H0 true n0 M_X6_isBare x 0 0 2 [(0, (14, a0)), (1, (13, a1)), (2, (0, a2)), (3, (0, l3))] [] h) {r : (Int) ⊕ (Int)} (hr : fX6_isBare_s2 h a0 a1 a2 l3 = some r) (hk : K r) : Wq p l e R s m args below meth c D G A H0 true n0 M_X6_isBare x 0 0 2 [(0, (14, a0)), (1, (13, a1)), (2, (0, a2)), (3, (0, l3))] [] h := by
  unfold fX6_isBare_s2 at hr
  refine r_iload_n dX6_isBare_2 rfl 3 rfl (Or.inl rfl) ?_
  refine r_aload_n dX6_isBare_3 rfl 0 rfl (nl rfl) ?_
  refine r_aload_n dX6_isBare_4 rfl 1 rfl (nl rfl) ?_
  refine r_iload_n dX6_isBare_5 rfl 2 rfl (Or.inl rfl) ?_
  obtain ⟨r6, hg6, hr⟩ := bnd hr
  refine k_V (ci := 3) (o := a1) (T := TX3) (as := [(0, a2)]) (rest := [(14, a0), (0, l3)]) (X := (some (0, r6), h)) (oX3_tableAt hg6) gX3_tableAt rfl (by decide) rfl (wsl_70 _ (List.mem_of_getElem? (i := 20) rfl)) rfl dX6_isBare_6 rfl ?_
  obtain ⟨r9, hg9, hr⟩ := bnd hr
  refine k_V (ci := 4) (o := a0) (T := TX4) (as := [(0, r6)]) (rest := [(0, l3)]) (X := (some (0, r9), h)) (oX4_width hg9) gX4_width rfl (by decide) rfl (wsl_71 _ (List.mem_of_getElem? (i := 0) rfl)) rfl dX6_isBare_9 rfl ?_
  refine r_icmp_ge dX6_isBare_12 (tgt := 33) (by decide) (fun hc => ?_) (fun hc => ?_)
  · have hr := ifn hr hc
    refine r_iconst dX6_isBare_33 (by decide) ?_
    refine r_scast 0 (v := (0, 0)) (w := (2, 0)) rfl cz (fun _ => Or.inl rfl) (st' := [(2, 0)]) rfl ?_
    obtain rfl := Option.some.inj hr
    exact r_ret dX6_isBare_34 rfl (Or.inr ⟨rfl, rfl⟩) (k0 _ hk) ⟨rfl, rfl⟩
  · have hr := ifp hr hc
    refine r_aload_n dX6_isBare_15 rfl 1 rfl (nl rfl) ?_
    refine r_iload_n dX6_isBare_16 rfl 2 rfl (Or.inl rfl) ?_
    refine r_iload_n dX6_isBare_17 rfl 3 rfl (Or.inl rfl) ?_
    obtain ⟨r18, hg18, hr⟩ := bnd hr
    refine k_V (ci := 3) (o := a1) (T := TX3) (as := [(0, a2), (0, l3)]) (rest := []) (X := (some (0, r18), h)) (oX3_value hg18) gX3_value rfl (by decide) rfl (wsl_71 _ (List.mem_of_getElem? (i := 1) rfl)) rfl dX6_isBare_18 rfl ?_
    refine r_iconst dX6_isBare_21 (by decide) ?_
    refine r_icmp_ne dX6_isBare_22 (tgt := 27) (by decide) (fun hc => ?_) (fun hc => ?_)
    · have hr := ifn hr hc
      refine r_iinc (k := 3) (v := l3) dX6_isBare_27 rfl (by decide) (lv' := [(3, (0, w32 (l3 + 1))), (0, (14, a0)), (1, (13, a1)), (2, (0, a2))]) rfl ?_
      refine r_goto dX6_isBare_30 (tgt := 2) (by decide) ?_
      refine r_sub [1, 2, 3, 0] (lv' := [(0, (14, a0)), (1, (13, a1)), (2, (0, a2)), (3, (0, w32 (l3 + 1)))]) rfl ?_
      obtain rfl := Option.some.inj hr
      exact k1 _ hk
    · have hr := ifp hr hc
      refine r_iconst dX6_isBare_25 (by decide) ?_
      refine r_scast 0 (v := (0, 1)) (w := (2, 1)) rfl cz (fun _ => Or.inr rfl) (st' := [(2, 1)]) rfl ?_
      obtain rfl := Option.some.inj hr
      exact r_ret dX6_isBare_26 rfl (Or.inr ⟨rfl, rfl⟩) (k0 _ hk) ⟨rfl, rfl⟩
set_option maxRecDepth 100000 in
set_option maxHeartbeats 4000000 in
theorem oX6_isBare_b0 {a0 a1 a2 : Int} {K : Int → Prop} (k0 : ∀ r, K (r) → x = (some (2, r), h)) {r : Int} (hr : fX6_isBare h a0 a1 a2 = some r) (hk : K r) : Wq p l e R s m args below meth c D G A H0 true n0 M_X6_isBare x 0 0 0 [(0, (14, a0)), (1, (13, a1)), (2, (0, a2))] [] h := by
  unfold fX6_isBare at hr
  refine r_iconst dX6_isBare_0 (by decide) ?_
  refine r_istore_n dX6_isBare_1 rfl (Or.inl rfl) (by decide) (lv' := [(3, (0, 0)), (0, (14, a0)), (1, (13, a1)), (2, (0, a2))]) rfl ?_
  refine r_sub [1, 2, 3, 0] (lv' := [(0, (14, a0)), (1, (13, a1)), (2, (0, a2)), (3, (0, 0))]) rfl ?_
  exact lp_ok (w := fun (q : Int) => Wq p l e R s m args below meth c D G A H0 true n0 M_X6_isBare x 0 0 2 [(0, (14, a0)), (1, (13, a1)), (2, (0, a2)), (3, (0, q))] [] (h)) (K := K) (fun q r h1 h2 => oX6_isBare_s2 (K := Sum.elim (fun (q : Int) => Wq p l e R s m args below meth c D G A H0 true n0 M_X6_isBare x 0 0 2 [(0, (14, a0)), (1, (13, a1)), (2, (0, a2)), (3, (0, q))] [] (h)) (K)) (fun r z => k0 r z) (fun _ z => z) h1 h2) hr hk
end M_X6_isBare
theorem oX6_isBare {l : Launch} {D : va_G} {G : gG} {h : hH} {a0 a1 a2 : Int} {r : Int} (hr : fX6_isBare h a0 a1 a2 = some r) : Ctr l D G true yX6_isBare M_X6_isBare [(14, a0), (13, a1), (0, a2)] h (some (2, r), h) :=
  Ctr_of (by decide) rfl (fun z => by cases z) (nl rfl) (fun {p e R s m args below meth c A H0} => by
    exact oX6_isBare_b0 (K := fun z9 => z9 = r) (fun r9 z => by rw [z]) hr rfl)
/-! X10_tellsOf -/
theorem dX10_tellsOf_0 : decode cX10_tellsOf 0 = .ok (.iconst 0, 1) := by decide +kernel
theorem dX10_tellsOf_1 : decode cX10_tellsOf 1 = .ok (.istore_n 2, 1) := by decide +kernel
theorem dX10_tellsOf_2 : decode cX10_tellsOf 2 = .ok (.iload_n 2, 1) := by decide +kernel
theorem dX10_tellsOf_3 : decode cX10_tellsOf 3 = .ok (.aload_n 0, 1) := by decide +kernel
theorem dX10_tellsOf_4 : decode cX10_tellsOf 4 = .ok (.getfield 15, 3) := by decide +kernel
theorem dX10_tellsOf_7 : decode cX10_tellsOf 7 = .ok (.if_icmp .ge 27, 3) := by decide +kernel
theorem dX10_tellsOf_10 : decode cX10_tellsOf 10 = .ok (.aload_n 0, 1) := by decide +kernel
theorem dX10_tellsOf_11 : decode cX10_tellsOf 11 = .ok (.getfield 9, 3) := by decide +kernel
theorem dX10_tellsOf_14 : decode cX10_tellsOf 14 = .ok (.iload_n 2, 1) := by decide +kernel
theorem dX10_tellsOf_15 : decode cX10_tellsOf 15 = .ok (.invokestatic 97, 3) := by decide +kernel
theorem dX10_tellsOf_18 : decode cX10_tellsOf 18 = .ok (.sipush 255, 3) := by decide +kernel
theorem dX10_tellsOf_21 : decode cX10_tellsOf 21 = .ok (.iand, 1) := by decide +kernel
theorem dX10_tellsOf_22 : decode cX10_tellsOf 22 = .ok (.iload_n 1, 1) := by decide +kernel
theorem dX10_tellsOf_23 : decode cX10_tellsOf 23 = .ok (.if_icmp .ne 5, 3) := by decide +kernel
theorem dX10_tellsOf_26 : decode cX10_tellsOf 26 = .ok (.iconst 1, 1) := by decide +kernel
theorem dX10_tellsOf_27 : decode cX10_tellsOf 27 = .ok (.ireturn, 1) := by decide +kernel
theorem dX10_tellsOf_28 : decode cX10_tellsOf 28 = .ok (.iinc 2 1, 3) := by decide +kernel
theorem dX10_tellsOf_31 : decode cX10_tellsOf 31 = .ok (.goto (-29), 3) := by decide +kernel
theorem dX10_tellsOf_34 : decode cX10_tellsOf 34 = .ok (.iconst 0, 1) := by decide +kernel
theorem dX10_tellsOf_35 : decode cX10_tellsOf 35 = .ok (.ireturn, 1) := by decide +kernel
abbrev M_X10_tellsOf : mM := (cX10_tellsOf, 3, RX10, some .boolean, false, 1, 21, 0, 0)
theorem gX10_tellsOf : cI yX10_tellsOf M_X10_tellsOf 1 := ⟨(wsl_71 _ (List.mem_of_getElem? (i := 5) rfl)), (wsl_71 _ (List.mem_of_getElem? (i := 6) rfl)), (wsl_6 _ (List.mem_of_getElem? (i := 0) rfl)), (wsl_71 _ (List.mem_of_getElem? (i := 7) rfl)), by decide +kernel⟩
noncomputable def fX10_tellsOf_s2 (h : hH) (a0 a1 : Int) : Int → Option ((Int) ⊕ (Int)) := fun l2 =>
  if l2 < h a0 0 then
    (fX11_at h (h a0 1) l2).bind fun r15 =>
    if iadD r15 255 = a1 then
      some (.inr (1))
    else
      some (.inl (w32 (l2 + 1)))
  else
    some (.inr (0))
noncomputable def fX10_tellsOf (h : hH) (a0 a1 : Int) : Option (Int) :=
  lpO (fX10_tellsOf_s2 h a0 a1) 0
section M_X10_tellsOf
variable {p : Program} {l : Launch} {e : Env} {R : Room} {s : State} {m : MethodId} {args : Array Value} {below : List Frame} {meth : Method} {c : Code} {D : va_G} {G : gG} {A : Nat → Prop} {H0 : Heap} {n0 : Int} {x : Option vV × hH} {h : hH}
set_option maxRecDepth 100000 in
set_option maxHeartbeats 4000000 in
theorem oX10_tellsOf_s2 {a0 a1 l2 : Int} {K : (Int) ⊕ (Int) → Prop} (k0 : ∀ r, K (.inr (r)) → x = (some (2, r), h)) (k1 : ∀ (l2 : Int), K (.inl l2) → Wq p l e R s m args below meth c D G A H0 true n0 M_X10_tellsOf x 0 0 2 [(0, (20, a0)), (1, (0, a1)), (2, (0, l2))] [] h) {r : (Int) ⊕ (Int)} (hr : fX10_tellsOf_s2 h a0 a1 l2 = some r) (hk : K r) : Wq p l e R s m args below meth c D G A H0 true n0 M_X10_tellsOf x 0 0 2 [(0, (20, a0)), (1, (0, a1)), (2, (0, l2))] [] h := by
  unfold fX10_tellsOf_s2 at hr
  refine r_iload_n dX10_tellsOf_2 rfl 2 rfl (Or.inl rfl) ?_
  refine r_aload_n dX10_tellsOf_3 rfl 0 rfl (nl rfl) ?_
  refine r_get 10 0 (o := a0) (w := (0, h a0 0)) (T := TX10) (ref := "FollowingRefs$Violations") rfl (by decide) rfl (by decide) inlX10 (wsl_32 _ (List.mem_of_getElem? (i := 15) rfl)) rfl dX10_tellsOf_4 rfl ?_
  refine r_icmp_ge dX10_tellsOf_7 (tgt := 34) (by decide) (fun hc => ?_) (fun hc => ?_)
  · have hr := ifn hr hc
    refine r_iconst dX10_tellsOf_34 (by decide) ?_
    refine r_scast 0 (v := (0, 0)) (w := (2, 0)) rfl cz (fun _ => Or.inl rfl) (st' := [(2, 0)]) rfl ?_
    obtain rfl := Option.some.inj hr
    exact r_ret dX10_tellsOf_35 rfl (Or.inr ⟨rfl, rfl⟩) (k0 _ hk) ⟨rfl, rfl⟩
  · have hr := ifp hr hc
    refine r_aload_n dX10_tellsOf_10 rfl 0 rfl (nl rfl) ?_
    refine r_get 10 1 (o := a0) (w := (50, h a0 1)) (T := TX10) (ref := "FollowingRefs$Violations") rfl (by decide) rfl (by decide) inlX10 (wsl_6 _ (List.mem_of_getElem? (i := 13) rfl)) rfl dX10_tellsOf_11 rfl ?_
    refine r_iload_n dX10_tellsOf_14 rfl 2 rfl (Or.inl rfl) ?_
    obtain ⟨r15, hg15, hr⟩ := bnd hr
    refine k_SN (host := "FollowingRefs") (as := [(50, h a0 1), (0, l2)]) (rest := []) (X := (some (0, r15), h)) (oX11_at hg15) gX11_at rfl (List.mem_of_getElem? (i := 9) rfl) rfl dX10_tellsOf_15 rfl ?_
    refine r_sipush dX10_tellsOf_18 (by decide) (by decide) ?_
    refine r_iand dX10_tellsOf_21 ?_
    refine r_iload_n dX10_tellsOf_22 rfl 1 rfl (Or.inl rfl) ?_
    refine r_icmp_ne dX10_tellsOf_23 (tgt := 28) (by decide) (fun hc => ?_) (fun hc => ?_)
    · have hr := ifn hr hc
      refine r_iinc (k := 2) (v := l2) dX10_tellsOf_28 rfl (by decide) (lv' := [(2, (0, w32 (l2 + 1))), (0, (20, a0)), (1, (0, a1))]) rfl ?_
      refine r_goto dX10_tellsOf_31 (tgt := 2) (by decide) ?_
      refine r_sub [1, 2, 0] (lv' := [(0, (20, a0)), (1, (0, a1)), (2, (0, w32 (l2 + 1)))]) rfl ?_
      obtain rfl := Option.some.inj hr
      exact k1 _ hk
    · have hr := ifp hr hc
      refine r_iconst dX10_tellsOf_26 (by decide) ?_
      refine r_scast 0 (v := (0, 1)) (w := (2, 1)) rfl cz (fun _ => Or.inr rfl) (st' := [(2, 1)]) rfl ?_
      obtain rfl := Option.some.inj hr
      exact r_ret dX10_tellsOf_27 rfl (Or.inr ⟨rfl, rfl⟩) (k0 _ hk) ⟨rfl, rfl⟩
set_option maxRecDepth 100000 in
set_option maxHeartbeats 4000000 in
theorem oX10_tellsOf_b0 {a0 a1 : Int} {K : Int → Prop} (k0 : ∀ r, K (r) → x = (some (2, r), h)) {r : Int} (hr : fX10_tellsOf h a0 a1 = some r) (hk : K r) : Wq p l e R s m args below meth c D G A H0 true n0 M_X10_tellsOf x 0 0 0 [(0, (20, a0)), (1, (0, a1))] [] h := by
  unfold fX10_tellsOf at hr
  refine r_iconst dX10_tellsOf_0 (by decide) ?_
  refine r_istore_n dX10_tellsOf_1 rfl (Or.inl rfl) (by decide) (lv' := [(2, (0, 0)), (0, (20, a0)), (1, (0, a1))]) rfl ?_
  refine r_sub [1, 2, 0] (lv' := [(0, (20, a0)), (1, (0, a1)), (2, (0, 0))]) rfl ?_
  exact lp_ok (w := fun (q : Int) => Wq p l e R s m args below meth c D G A H0 true n0 M_X10_tellsOf x 0 0 2 [(0, (20, a0)), (1, (0, a1)), (2, (0, q))] [] (h)) (K := K) (fun q r h1 h2 => oX10_tellsOf_s2 (K := Sum.elim (fun (q : Int) => Wq p l e R s m args below meth c D G A H0 true n0 M_X10_tellsOf x 0 0 2 [(0, (20, a0)), (1, (0, a1)), (2, (0, q))] [] (h)) (K)) (fun r z => k0 r z) (fun _ z => z) h1 h2) hr hk
end M_X10_tellsOf
theorem oX10_tellsOf {l : Launch} {D : va_G} {G : gG} {h : hH} {a0 a1 : Int} {r : Int} (hr : fX10_tellsOf h a0 a1 = some r) : Ctr l D G true yX10_tellsOf M_X10_tellsOf [(20, a0), (0, a1)] h (some (2, r), h) :=
  Ctr_of (by decide) rfl (fun z => by cases z) (nl rfl) (fun {p e R s m args below meth c A H0} => by
    exact oX10_tellsOf_b0 (K := fun z9 => z9 = r) (fun r9 z => by rw [z]) hr rfl)
/-! X6_colOf -/
theorem dX6_colOf_0 : decode cX6_colOf 0 = .ok (.iload_n 1, 1) := by decide +kernel
theorem dX6_colOf_1 : decode cX6_colOf 1 = .ok (.ifCond .lt 8, 3) := by decide +kernel
theorem dX6_colOf_4 : decode cX6_colOf 4 = .ok (.iload_n 1, 1) := by decide +kernel
theorem dX6_colOf_5 : decode cX6_colOf 5 = .ok (.iconst 4, 1) := by decide +kernel
theorem dX6_colOf_6 : decode cX6_colOf 6 = .ok (.if_icmp .lt 7, 3) := by decide +kernel
theorem dX6_colOf_9 : decode cX6_colOf 9 = .ok (.iconst (-1), 1) := by decide +kernel
theorem dX6_colOf_10 : decode cX6_colOf 10 = .ok (.goto 14, 3) := by decide +kernel
theorem dX6_colOf_13 : decode cX6_colOf 13 = .ok (.iload_n 0, 1) := by decide +kernel
theorem dX6_colOf_14 : decode cX6_colOf 14 = .ok (.ineg, 1) := by decide +kernel
theorem dX6_colOf_15 : decode cX6_colOf 15 = .ok (.iconst 3, 1) := by decide +kernel
theorem dX6_colOf_16 : decode cX6_colOf 16 = .ok (.iload_n 1, 1) := by decide +kernel
theorem dX6_colOf_17 : decode cX6_colOf 17 = .ok (.imul, 1) := by decide +kernel
theorem dX6_colOf_18 : decode cX6_colOf 18 = .ok (.iushr, 1) := by decide +kernel
theorem dX6_colOf_19 : decode cX6_colOf 19 = .ok (.bipush 7, 2) := by decide +kernel
theorem dX6_colOf_21 : decode cX6_colOf 21 = .ok (.iand, 1) := by decide +kernel
theorem dX6_colOf_22 : decode cX6_colOf 22 = .ok (.iconst 1, 1) := by decide +kernel
theorem dX6_colOf_23 : decode cX6_colOf 23 = .ok (.isub, 1) := by decide +kernel
theorem dX6_colOf_24 : decode cX6_colOf 24 = .ok (.ireturn, 1) := by decide +kernel
abbrev M_X6_colOf : mM := (cX6_colOf, 2, RX6, some .int, false, 0, 0, 0, 0)
theorem gX6_colOf : cS yX6_colOf M_X6_colOf 2 := ⟨(wsl_71 _ (List.mem_of_getElem? (i := 9) rfl)), (wsl_2 _ (List.mem_of_getElem? (i := 3) rfl)), (wsl_71 _ (List.mem_of_getElem? (i := 10) rfl)), by decide +kernel⟩
noncomputable def fX6_colOf_b9 (h : hH) : Option (Int) :=
  some (-1)
noncomputable def fX6_colOf (h : hH) (a0 a1 : Int) : Option (Int) :=
  if a1 < 0 then
    fX6_colOf_b9 h
  else
    if a1 < 4 then
      some (w32 ((iadD (iusD (w32 (-a0)) (w32 (3 * a1))) 7) - 1))
    else
      fX6_colOf_b9 h
section M_X6_colOf
variable {p : Program} {l : Launch} {e : Env} {R : Room} {s : State} {m : MethodId} {args : Array Value} {below : List Frame} {meth : Method} {c : Code} {D : va_G} {G : gG} {A : Nat → Prop} {H0 : Heap} {n0 : Int} {x : Option vV × hH} {h : hH}
set_option maxRecDepth 100000 in
set_option maxHeartbeats 4000000 in
theorem oX6_colOf_b9 {K : Int → Prop} (k0 : ∀ r, K (r) → x = (some (0, r), h)) {r : Int} (hr : fX6_colOf_b9 h  = some r) (hk : K r) : Wq p l e R s m args below meth c D G A H0 true n0 M_X6_colOf x 0 0 9 [] [] h := by
  unfold fX6_colOf_b9 at hr
  refine r_iconst dX6_colOf_9 (by decide) ?_
  refine r_goto dX6_colOf_10 (tgt := 24) (by decide) ?_
  obtain rfl := Option.some.inj hr
  exact r_ret dX6_colOf_24 rfl (Or.inl ⟨rfl, rfl⟩) (k0 _ hk) ⟨rfl, rfl⟩
set_option maxRecDepth 100000 in
set_option maxHeartbeats 4000000 in
theorem oX6_colOf_b0 {a0 a1 : Int} {K : Int → Prop} (k0 : ∀ r, K (r) → x = (some (0, r), h)) {r : Int} (hr : fX6_colOf h a0 a1 = some r) (hk : K r) : Wq p l e R s m args below meth c D G A H0 true n0 M_X6_colOf x 0 0 0 [(0, (0, a0)), (1, (0, a1))] [] h := by
  unfold fX6_colOf at hr
  refine r_iload_n dX6_colOf_0 rfl 1 rfl (Or.inl rfl) ?_
  refine r_if_lt dX6_colOf_1 (tgt := 9) (by decide) (fun hc => ?_) (fun hc => ?_)
  · have hr := ifp hr hc
    refine r_sub [] (lv' := []) rfl ?_
    exact oX6_colOf_b9 (K := K) (fun r z => k0 r z) hr hk
  · have hr := ifn hr hc
    refine r_iload_n dX6_colOf_4 rfl 1 rfl (Or.inl rfl) ?_
    refine r_iconst dX6_colOf_5 (by decide) ?_
    refine r_icmp_lt dX6_colOf_6 (tgt := 13) (by decide) (fun hc => ?_) (fun hc => ?_)
    · have hr := ifp hr hc
      refine r_iload_n dX6_colOf_13 rfl 0 rfl (Or.inl rfl) ?_
      refine r_ineg dX6_colOf_14 ?_
      refine r_iconst dX6_colOf_15 (by decide) ?_
      refine r_iload_n dX6_colOf_16 rfl 1 rfl (Or.inl rfl) ?_
      refine r_imul dX6_colOf_17 ?_
      refine r_iushr dX6_colOf_18 ?_
      refine r_bipush dX6_colOf_19 (by decide) (by decide) ?_
      refine r_iand dX6_colOf_21 ?_
      refine r_iconst dX6_colOf_22 (by decide) ?_
      refine r_isub dX6_colOf_23 ?_
      obtain rfl := Option.some.inj hr
      exact r_ret dX6_colOf_24 rfl (Or.inl ⟨rfl, rfl⟩) (k0 _ hk) ⟨rfl, rfl⟩
    · have hr := ifn hr hc
      refine r_sub [] (lv' := []) rfl ?_
      exact oX6_colOf_b9 (K := K) (fun r z => k0 r z) hr hk
end M_X6_colOf
theorem oX6_colOf {l : Launch} {D : va_G} {G : gG} {h : hH} {a0 a1 : Int} {r : Int} (hr : fX6_colOf h a0 a1 = some r) : Ctr l D G true yX6_colOf M_X6_colOf [(0, a0), (0, a1)] h (some (0, r), h) :=
  Ctr_of (by decide) rfl (fun z => by cases z) (nl rfl) (fun {p e R s m args below meth c A H0} => by
    exact oX6_colOf_b0 (K := fun z9 => z9 = r) (fun r9 z => by rw [z]) hr rfl)
/-! X6_holdsOne -/
theorem dX6_holdsOne_0 : decode cX6_holdsOne 0 = .ok (.aload_n 0, 1) := by decide +kernel
theorem dX6_holdsOne_1 : decode cX6_holdsOne 1 = .ok (.getfield 9, 3) := by decide +kernel
theorem dX6_holdsOne_4 : decode cX6_holdsOne 4 = .ok (.iconst 3, 1) := by decide +kernel
theorem dX6_holdsOne_5 : decode cX6_holdsOne 5 = .ok (.iload 5, 2) := by decide +kernel
theorem dX6_holdsOne_7 : decode cX6_holdsOne 7 = .ok (.imul, 1) := by decide +kernel
theorem dX6_holdsOne_8 : decode cX6_holdsOne 8 = .ok (.iconst 1, 1) := by decide +kernel
theorem dX6_holdsOne_9 : decode cX6_holdsOne 9 = .ok (.iadd, 1) := by decide +kernel
theorem dX6_holdsOne_10 : decode cX6_holdsOne 10 = .ok (.invokestatic 34, 3) := by decide +kernel
theorem dX6_holdsOne_13 : decode cX6_holdsOne 13 = .ok (.istore 6, 2) := by decide +kernel
theorem dX6_holdsOne_15 : decode cX6_holdsOne 15 = .ok (.aload_n 0, 1) := by decide +kernel
theorem dX6_holdsOne_16 : decode cX6_holdsOne 16 = .ok (.getfield 9, 3) := by decide +kernel
theorem dX6_holdsOne_19 : decode cX6_holdsOne 19 = .ok (.iconst 3, 1) := by decide +kernel
theorem dX6_holdsOne_20 : decode cX6_holdsOne 20 = .ok (.iload 5, 2) := by decide +kernel
theorem dX6_holdsOne_22 : decode cX6_holdsOne 22 = .ok (.imul, 1) := by decide +kernel
theorem dX6_holdsOne_23 : decode cX6_holdsOne 23 = .ok (.iconst 2, 1) := by decide +kernel
theorem dX6_holdsOne_24 : decode cX6_holdsOne 24 = .ok (.iadd, 1) := by decide +kernel
theorem dX6_holdsOne_25 : decode cX6_holdsOne 25 = .ok (.invokestatic 34, 3) := by decide +kernel
theorem dX6_holdsOne_28 : decode cX6_holdsOne 28 = .ok (.istore 7, 2) := by decide +kernel
theorem dX6_holdsOne_30 : decode cX6_holdsOne 30 = .ok (.aload_n 2, 1) := by decide +kernel
theorem dX6_holdsOne_31 : decode cX6_holdsOne 31 = .ok (.iload_n 3, 1) := by decide +kernel
theorem dX6_holdsOne_32 : decode cX6_holdsOne 32 = .ok (.invokevirtual 42, 3) := by decide +kernel
theorem dX6_holdsOne_35 : decode cX6_holdsOne 35 = .ok (.istore 8, 2) := by decide +kernel
theorem dX6_holdsOne_37 : decode cX6_holdsOne 37 = .ok (.aload_n 0, 1) := by decide +kernel
theorem dX6_holdsOne_38 : decode cX6_holdsOne 38 = .ok (.getfield 9, 3) := by decide +kernel
theorem dX6_holdsOne_41 : decode cX6_holdsOne 41 = .ok (.iconst 3, 1) := by decide +kernel
theorem dX6_holdsOne_42 : decode cX6_holdsOne 42 = .ok (.iload 5, 2) := by decide +kernel
theorem dX6_holdsOne_44 : decode cX6_holdsOne 44 = .ok (.imul, 1) := by decide +kernel
theorem dX6_holdsOne_45 : decode cX6_holdsOne 45 = .ok (.invokestatic 34, 3) := by decide +kernel
theorem dX6_holdsOne_48 : decode cX6_holdsOne 48 = .ok (.tableswitch 95 152 156 #[36, 43, 58, 69, 82], 36) := by decide +kernel
theorem dX6_holdsOne_84 : decode cX6_holdsOne 84 = .ok (.aload_n 1, 1) := by decide +kernel
theorem dX6_holdsOne_85 : decode cX6_holdsOne 85 = .ok (.aload_n 2, 1) := by decide +kernel
theorem dX6_holdsOne_86 : decode cX6_holdsOne 86 = .ok (.iload_n 3, 1) := by decide +kernel
theorem dX6_holdsOne_87 : decode cX6_holdsOne 87 = .ok (.invokestatic 48, 3) := by decide +kernel
theorem dX6_holdsOne_90 : decode cX6_holdsOne 90 = .ok (.ireturn, 1) := by decide +kernel
theorem dX6_holdsOne_91 : decode cX6_holdsOne 91 = .ok (.aload_n 2, 1) := by decide +kernel
theorem dX6_holdsOne_92 : decode cX6_holdsOne 92 = .ok (.aload_n 1, 1) := by decide +kernel
theorem dX6_holdsOne_93 : decode cX6_holdsOne 93 = .ok (.iload_n 3, 1) := by decide +kernel
theorem dX6_holdsOne_94 : decode cX6_holdsOne 94 = .ok (.invokevirtual 52, 3) := by decide +kernel
theorem dX6_holdsOne_97 : decode cX6_holdsOne 97 = .ok (.ifCond .le 7, 3) := by decide +kernel
theorem dX6_holdsOne_100 : decode cX6_holdsOne 100 = .ok (.iconst 1, 1) := by decide +kernel
theorem dX6_holdsOne_101 : decode cX6_holdsOne 101 = .ok (.goto 4, 3) := by decide +kernel
theorem dX6_holdsOne_104 : decode cX6_holdsOne 104 = .ok (.iconst 0, 1) := by decide +kernel
theorem dX6_holdsOne_105 : decode cX6_holdsOne 105 = .ok (.ireturn, 1) := by decide +kernel
theorem dX6_holdsOne_106 : decode cX6_holdsOne 106 = .ok (.aload 4, 2) := by decide +kernel
theorem dX6_holdsOne_108 : decode cX6_holdsOne 108 = .ok (.aload_n 2, 1) := by decide +kernel
theorem dX6_holdsOne_109 : decode cX6_holdsOne 109 = .ok (.iload_n 3, 1) := by decide +kernel
theorem dX6_holdsOne_110 : decode cX6_holdsOne 110 = .ok (.invokevirtual 56, 3) := by decide +kernel
theorem dX6_holdsOne_113 : decode cX6_holdsOne 113 = .ok (.invokevirtual 59, 3) := by decide +kernel
theorem dX6_holdsOne_116 : decode cX6_holdsOne 116 = .ok (.ireturn, 1) := by decide +kernel
theorem dX6_holdsOne_117 : decode cX6_holdsOne 117 = .ok (.iload 8, 2) := by decide +kernel
theorem dX6_holdsOne_119 : decode cX6_holdsOne 119 = .ok (.iload 6, 2) := by decide +kernel
theorem dX6_holdsOne_121 : decode cX6_holdsOne 121 = .ok (.if_icmp .ne 7, 3) := by decide +kernel
theorem dX6_holdsOne_124 : decode cX6_holdsOne 124 = .ok (.iconst 1, 1) := by decide +kernel
theorem dX6_holdsOne_125 : decode cX6_holdsOne 125 = .ok (.goto 4, 3) := by decide +kernel
theorem dX6_holdsOne_128 : decode cX6_holdsOne 128 = .ok (.iconst 0, 1) := by decide +kernel
theorem dX6_holdsOne_129 : decode cX6_holdsOne 129 = .ok (.ireturn, 1) := by decide +kernel
theorem dX6_holdsOne_130 : decode cX6_holdsOne 130 = .ok (.aload_n 2, 1) := by decide +kernel
theorem dX6_holdsOne_131 : decode cX6_holdsOne 131 = .ok (.iload_n 3, 1) := by decide +kernel
theorem dX6_holdsOne_132 : decode cX6_holdsOne 132 = .ok (.invokevirtual 56, 3) := by decide +kernel
theorem dX6_holdsOne_135 : decode cX6_holdsOne 135 = .ok (.iload 6, 2) := by decide +kernel
theorem dX6_holdsOne_137 : decode cX6_holdsOne 137 = .ok (.iload 7, 2) := by decide +kernel
theorem dX6_holdsOne_139 : decode cX6_holdsOne 139 = .ok (.invokestatic 65, 3) := by decide +kernel
theorem dX6_holdsOne_142 : decode cX6_holdsOne 142 = .ok (.ireturn, 1) := by decide +kernel
theorem dX6_holdsOne_143 : decode cX6_holdsOne 143 = .ok (.aload_n 0, 1) := by decide +kernel
theorem dX6_holdsOne_144 : decode cX6_holdsOne 144 = .ok (.getfield 9, 3) := by decide +kernel
theorem dX6_holdsOne_147 : decode cX6_holdsOne 147 = .ok (.iconst 3, 1) := by decide +kernel
theorem dX6_holdsOne_148 : decode cX6_holdsOne 148 = .ok (.iload 5, 2) := by decide +kernel
theorem dX6_holdsOne_150 : decode cX6_holdsOne 150 = .ok (.imul, 1) := by decide +kernel
theorem dX6_holdsOne_151 : decode cX6_holdsOne 151 = .ok (.invokestatic 34, 3) := by decide +kernel
theorem dX6_holdsOne_154 : decode cX6_holdsOne 154 = .ok (.iload 8, 2) := by decide +kernel
theorem dX6_holdsOne_156 : decode cX6_holdsOne 156 = .ok (.invokestatic 69, 3) := by decide +kernel
theorem dX6_holdsOne_159 : decode cX6_holdsOne 159 = .ok (.istore 9, 2) := by decide +kernel
theorem dX6_holdsOne_161 : decode cX6_holdsOne 161 = .ok (.iload 9, 2) := by decide +kernel
theorem dX6_holdsOne_163 : decode cX6_holdsOne 163 = .ok (.iconst (-1), 1) := by decide +kernel
theorem dX6_holdsOne_164 : decode cX6_holdsOne 164 = .ok (.if_icmp .ne 7, 3) := by decide +kernel
theorem dX6_holdsOne_167 : decode cX6_holdsOne 167 = .ok (.iconst (-1), 1) := by decide +kernel
theorem dX6_holdsOne_168 : decode cX6_holdsOne 168 = .ok (.goto 10, 3) := by decide +kernel
theorem dX6_holdsOne_171 : decode cX6_holdsOne 171 = .ok (.aload_n 2, 1) := by decide +kernel
theorem dX6_holdsOne_172 : decode cX6_holdsOne 172 = .ok (.iload_n 3, 1) := by decide +kernel
theorem dX6_holdsOne_173 : decode cX6_holdsOne 173 = .ok (.iload 9, 2) := by decide +kernel
theorem dX6_holdsOne_175 : decode cX6_holdsOne 175 = .ok (.invokevirtual 73, 3) := by decide +kernel
theorem dX6_holdsOne_178 : decode cX6_holdsOne 178 = .ok (.istore 10, 2) := by decide +kernel
theorem dX6_holdsOne_180 : decode cX6_holdsOne 180 = .ok (.iload 10, 2) := by decide +kernel
theorem dX6_holdsOne_182 : decode cX6_holdsOne 182 = .ok (.iconst (-1), 1) := by decide +kernel
theorem dX6_holdsOne_183 : decode cX6_holdsOne 183 = .ok (.if_icmp .eq 19, 3) := by decide +kernel
theorem dX6_holdsOne_186 : decode cX6_holdsOne 186 = .ok (.iload 10, 2) := by decide +kernel
theorem dX6_holdsOne_188 : decode cX6_holdsOne 188 = .ok (.iload 6, 2) := by decide +kernel
theorem dX6_holdsOne_190 : decode cX6_holdsOne 190 = .ok (.iload 7, 2) := by decide +kernel
theorem dX6_holdsOne_192 : decode cX6_holdsOne 192 = .ok (.invokestatic 65, 3) := by decide +kernel
theorem dX6_holdsOne_195 : decode cX6_holdsOne 195 = .ok (.ifCond .eq 7, 3) := by decide +kernel
theorem dX6_holdsOne_198 : decode cX6_holdsOne 198 = .ok (.iconst 1, 1) := by decide +kernel
theorem dX6_holdsOne_199 : decode cX6_holdsOne 199 = .ok (.goto 4, 3) := by decide +kernel
theorem dX6_holdsOne_202 : decode cX6_holdsOne 202 = .ok (.iconst 0, 1) := by decide +kernel
theorem dX6_holdsOne_203 : decode cX6_holdsOne 203 = .ok (.ireturn, 1) := by decide +kernel
abbrev M_X6_holdsOne : mM := (cX6_holdsOne, 11, RX6, some .boolean, false, 4, 99, 0, 0)
theorem gX6_holdsOne : cI yX6_holdsOne M_X6_holdsOne 5 := ⟨(wsl_70 _ (List.mem_of_getElem? (i := 17) rfl)), (wsl_70 _ (List.mem_of_getElem? (i := 18) rfl)), (wsl_2 _ (List.mem_of_getElem? (i := 3) rfl)), (wsl_70 _ (List.mem_of_getElem? (i := 19) rfl)), by decide +kernel⟩
noncomputable def fX6_holdsOne_b178 (h : hH) (l6 l7 s0 : Int) : Option (Int) :=
  if s0 = -1 then
    some 0
  else
    (fX11_compares h s0 l6 l7).bind fun r192 =>
    if r192 = 0 then
      some 0
    else
      some 1
noncomputable def fX6_holdsOne (h : hH) (a0 a1 a2 a3 a4 a5 : Int) : Option (Int) :=
  (fX11_at h (h a0 3) (w32 ((w32 (3 * a5)) + 1))).bind fun r10 =>
  (fX11_at h (h a0 3) (w32 ((w32 (3 * a5)) + 2))).bind fun r25 =>
  (fX3_tableAt h a2 a3).bind fun r32 =>
  (fX11_at h (h a0 3) (w32 (3 * a5))).bind fun r45 =>
  if r45 = 152 then
    (fX6_isBare h a1 a2 a3).bind fun r87 =>
    some r87
  else
    if r45 = 153 then
      (fX3_referring h a2 a1 a3).bind fun r94 =>
      if 0 < r94 then
        some 1
      else
        some 0
    else
      if r45 = 154 then
        (fX3_numberAt h a2 a3).bind fun r110 =>
        (fX10_tellsOf h a4 r110).bind fun r113 =>
        some r113
      else
        if r45 = 155 then
          if r32 = r10 then
            some 1
          else
            some 0
        else
          if r45 = 156 then
            (fX3_numberAt h a2 a3).bind fun r132 =>
            (fX11_compares h r132 r10 r25).bind fun r139 =>
            some r139
          else
            (fX11_at h (h a0 3) (w32 (3 * a5))).bind fun r151 =>
            (fX6_colOf h r151 r32).bind fun r156 =>
            if r156 = -1 then
              fX6_holdsOne_b178 h r10 r25 (-1)
            else
              (fX3_value h a2 a3 r156).bind fun r175 =>
              fX6_holdsOne_b178 h r10 r25 r175
section M_X6_holdsOne
variable {p : Program} {l : Launch} {e : Env} {R : Room} {s : State} {m : MethodId} {args : Array Value} {below : List Frame} {meth : Method} {c : Code} {D : va_G} {G : gG} {A : Nat → Prop} {H0 : Heap} {n0 : Int} {x : Option vV × hH} {h : hH}
set_option maxRecDepth 100000 in
set_option maxHeartbeats 4000000 in
theorem oX6_holdsOne_b178 {l6 l7 s0 : Int} {K : Int → Prop} (k0 : ∀ r, K (r) → x = (some (2, r), h)) {r : Int} (hr : fX6_holdsOne_b178 h l6 l7 s0 = some r) (hk : K r) : Wq p l e R s m args below meth c D G A H0 true n0 M_X6_holdsOne x 0 0 178 [(6, (0, l6)), (7, (0, l7))] [(0, s0)] h := by
  unfold fX6_holdsOne_b178 at hr
  refine r_istore dX6_holdsOne_178 (Or.inl rfl) (by decide) (lv' := [(10, (0, s0)), (6, (0, l6)), (7, (0, l7))]) rfl ?_
  refine r_iload dX6_holdsOne_180 0 rfl (Or.inl rfl) ?_
  refine r_iconst dX6_holdsOne_182 (by decide) ?_
  refine r_icmp_eq dX6_holdsOne_183 (tgt := 202) (by decide) (fun hc => ?_) (fun hc => ?_)
  · have hr := ifp hr hc
    refine r_iconst dX6_holdsOne_202 (by decide) ?_
    refine r_scast 0 (v := (0, 0)) (w := (2, 0)) rfl cz (fun _ => Or.inl rfl) (st' := [(2, 0)]) rfl ?_
    obtain rfl := Option.some.inj hr
    exact r_ret dX6_holdsOne_203 rfl (Or.inr ⟨rfl, rfl⟩) (k0 _ hk) ⟨rfl, rfl⟩
  · have hr := ifn hr hc
    refine r_iload dX6_holdsOne_186 0 rfl (Or.inl rfl) ?_
    refine r_iload dX6_holdsOne_188 1 rfl (Or.inl rfl) ?_
    refine r_iload dX6_holdsOne_190 2 rfl (Or.inl rfl) ?_
    obtain ⟨r192, hg192, hr⟩ := bnd hr
    refine k_SN (host := "FollowingRefs") (as := [(0, s0), (0, l6), (0, l7)]) (rest := []) (X := (some (2, r192), h)) (oX11_compares hg192) gX11_compares rfl (List.mem_of_getElem? (i := 30) rfl) rfl dX6_holdsOne_192 rfl ?_
    refine r_scast 0 (v := (2, r192)) (w := (0, r192)) rfl zc hTz (st' := [(0, r192)]) rfl ?_
    refine r_if_eq dX6_holdsOne_195 (tgt := 202) (by decide) (fun hc => ?_) (fun hc => ?_)
    · have hr := ifp hr hc
      refine r_iconst dX6_holdsOne_202 (by decide) ?_
      refine r_scast 0 (v := (0, 0)) (w := (2, 0)) rfl cz (fun _ => Or.inl rfl) (st' := [(2, 0)]) rfl ?_
      obtain rfl := Option.some.inj hr
      exact r_ret dX6_holdsOne_203 rfl (Or.inr ⟨rfl, rfl⟩) (k0 _ hk) ⟨rfl, rfl⟩
    · have hr := ifn hr hc
      refine r_iconst dX6_holdsOne_198 (by decide) ?_
      refine r_goto dX6_holdsOne_199 (tgt := 203) (by decide) ?_
      refine r_scast 0 (v := (0, 1)) (w := (2, 1)) rfl cz (fun _ => Or.inr rfl) (st' := [(2, 1)]) rfl ?_
      obtain rfl := Option.some.inj hr
      exact r_ret dX6_holdsOne_203 rfl (Or.inr ⟨rfl, rfl⟩) (k0 _ hk) ⟨rfl, rfl⟩
set_option maxRecDepth 100000 in
set_option maxHeartbeats 4000000 in
theorem oX6_holdsOne_b0 {a0 a1 a2 a3 a4 a5 : Int} {K : Int → Prop} (k0 : ∀ r, K (r) → x = (some (2, r), h)) {r : Int} (hr : fX6_holdsOne h a0 a1 a2 a3 a4 a5 = some r) (hk : K r) : Wq p l e R s m args below meth c D G A H0 true n0 M_X6_holdsOne x 0 0 0 [(0, (16, a0)), (1, (14, a1)), (2, (13, a2)), (3, (0, a3)), (4, (20, a4)), (5, (0, a5))] [] h := by
  unfold fX6_holdsOne at hr
  refine r_aload_n dX6_holdsOne_0 rfl 0 rfl (nl rfl) ?_
  refine r_get 6 3 (o := a0) (w := (50, h a0 3)) (T := TX6) (ref := "FollowingRefs$Sentence") rfl (by decide) rfl (by decide) inlX6 (wsl_4 _ (List.mem_of_getElem? (i := 17) rfl)) rfl dX6_holdsOne_1 rfl ?_
  refine r_iconst dX6_holdsOne_4 (by decide) ?_
  refine r_iload dX6_holdsOne_5 5 rfl (Or.inl rfl) ?_
  refine r_imul dX6_holdsOne_7 ?_
  refine r_iconst dX6_holdsOne_8 (by decide) ?_
  refine r_iadd dX6_holdsOne_9 ?_
  obtain ⟨r10, hg10, hr⟩ := bnd hr
  refine k_SN (host := "FollowingRefs") (as := [(50, h a0 3), (0, w32 ((w32 (3 * a5)) + 1))]) (rest := []) (X := (some (0, r10), h)) (oX11_at hg10) gX11_at rfl (List.mem_of_getElem? (i := 29) rfl) rfl dX6_holdsOne_10 rfl ?_
  refine r_istore dX6_holdsOne_13 (Or.inl rfl) (by decide) (lv' := [(6, (0, r10)), (0, (16, a0)), (1, (14, a1)), (2, (13, a2)), (3, (0, a3)), (4, (20, a4)), (5, (0, a5))]) rfl ?_
  refine r_aload_n dX6_holdsOne_15 rfl 1 rfl (nl rfl) ?_
  refine r_get 6 3 (o := a0) (w := (50, h a0 3)) (T := TX6) (ref := "FollowingRefs$Sentence") rfl (by decide) rfl (by decide) inlX6 (wsl_4 _ (List.mem_of_getElem? (i := 17) rfl)) rfl dX6_holdsOne_16 rfl ?_
  refine r_iconst dX6_holdsOne_19 (by decide) ?_
  refine r_iload dX6_holdsOne_20 6 rfl (Or.inl rfl) ?_
  refine r_imul dX6_holdsOne_22 ?_
  refine r_iconst dX6_holdsOne_23 (by decide) ?_
  refine r_iadd dX6_holdsOne_24 ?_
  obtain ⟨r25, hg25, hr⟩ := bnd hr
  refine k_SN (host := "FollowingRefs") (as := [(50, h a0 3), (0, w32 ((w32 (3 * a5)) + 2))]) (rest := []) (X := (some (0, r25), h)) (oX11_at hg25) gX11_at rfl (List.mem_of_getElem? (i := 29) rfl) rfl dX6_holdsOne_25 rfl ?_
  refine r_istore dX6_holdsOne_28 (Or.inl rfl) (by decide) (lv' := [(7, (0, r25)), (6, (0, r10)), (0, (16, a0)), (1, (14, a1)), (2, (13, a2)), (3, (0, a3)), (4, (20, a4)), (5, (0, a5))]) rfl ?_
  refine r_aload_n dX6_holdsOne_30 rfl 4 rfl (nl rfl) ?_
  refine r_iload_n dX6_holdsOne_31 rfl 5 rfl (Or.inl rfl) ?_
  obtain ⟨r32, hg32, hr⟩ := bnd hr
  refine k_V (ci := 3) (o := a2) (T := TX3) (as := [(0, a3)]) (rest := []) (X := (some (0, r32), h)) (oX3_tableAt hg32) gX3_tableAt rfl (by decide) rfl (wsl_70 _ (List.mem_of_getElem? (i := 20) rfl)) rfl dX6_holdsOne_32 rfl ?_
  refine r_istore dX6_holdsOne_35 (Or.inl rfl) (by decide) (lv' := [(8, (0, r32)), (7, (0, r25)), (6, (0, r10)), (0, (16, a0)), (1, (14, a1)), (2, (13, a2)), (3, (0, a3)), (4, (20, a4)), (5, (0, a5))]) rfl ?_
  refine r_aload_n dX6_holdsOne_37 rfl 3 rfl (nl rfl) ?_
  refine r_get 6 3 (o := a0) (w := (50, h a0 3)) (T := TX6) (ref := "FollowingRefs$Sentence") rfl (by decide) rfl (by decide) inlX6 (wsl_4 _ (List.mem_of_getElem? (i := 17) rfl)) rfl dX6_holdsOne_38 rfl ?_
  refine r_iconst dX6_holdsOne_41 (by decide) ?_
  refine r_iload dX6_holdsOne_42 8 rfl (Or.inl rfl) ?_
  refine r_imul dX6_holdsOne_44 ?_
  obtain ⟨r45, hg45, hr⟩ := bnd hr
  refine k_SN (host := "FollowingRefs") (as := [(50, h a0 3), (0, w32 (3 * a5))]) (rest := []) (X := (some (0, r45), h)) (oX11_at hg45) gX11_at rfl (List.mem_of_getElem? (i := 29) rfl) rfl dX6_holdsOne_45 rfl ?_
  by_cases hs0 : r45 = 152
  · have hr := ifp hr hs0
    refine r_tableIn dX6_holdsOne_48 (by omega) (by omega) (off := 36) (by rw [hs0]; rfl) (tgt := 84) (by decide) ?_
    refine r_aload_n dX6_holdsOne_84 rfl 4 rfl (nl rfl) ?_
    refine r_aload_n dX6_holdsOne_85 rfl 5 rfl (nl rfl) ?_
    refine r_iload_n dX6_holdsOne_86 rfl 6 rfl (Or.inl rfl) ?_
    obtain ⟨r87, hg87, hr⟩ := bnd hr
    refine k_S (as := [(14, a1), (13, a2), (0, a3)]) (rest := []) (X := (some (2, r87), h)) (oX6_isBare hg87) gX6_isBare rfl (wsl_70 _ (List.mem_of_getElem? (i := 21) rfl)) rfl dX6_holdsOne_87 rfl ?_
    obtain rfl := Option.some.inj hr
    exact r_ret dX6_holdsOne_90 rfl (Or.inr ⟨rfl, rfl⟩) (k0 _ hk) ⟨rfl, rfl⟩
  have hr := ifn hr hs0
  by_cases hs1 : r45 = 153
  · have hr := ifp hr hs1
    refine r_tableIn dX6_holdsOne_48 (by omega) (by omega) (off := 43) (by rw [hs1]; rfl) (tgt := 91) (by decide) ?_
    refine r_aload_n dX6_holdsOne_91 rfl 5 rfl (nl rfl) ?_
    refine r_aload_n dX6_holdsOne_92 rfl 4 rfl (nl rfl) ?_
    refine r_iload_n dX6_holdsOne_93 rfl 6 rfl (Or.inl rfl) ?_
    obtain ⟨r94, hg94, hr⟩ := bnd hr
    refine k_V (ci := 3) (o := a2) (T := TX3) (as := [(14, a1), (0, a3)]) (rest := []) (X := (some (0, r94), h)) (oX3_referring hg94) gX3_referring rfl (by decide) rfl (wsl_71 _ (List.mem_of_getElem? (i := 2) rfl)) rfl dX6_holdsOne_94 rfl ?_
    refine r_if_le dX6_holdsOne_97 (tgt := 104) (by decide) (fun hc => ?_) (fun hc => ?_)
    · have hr := ifn hr hc
      refine r_iconst dX6_holdsOne_104 (by decide) ?_
      refine r_scast 0 (v := (0, 0)) (w := (2, 0)) rfl cz (fun _ => Or.inl rfl) (st' := [(2, 0)]) rfl ?_
      obtain rfl := Option.some.inj hr
      exact r_ret dX6_holdsOne_105 rfl (Or.inr ⟨rfl, rfl⟩) (k0 _ hk) ⟨rfl, rfl⟩
    · have hr := ifp hr hc
      refine r_iconst dX6_holdsOne_100 (by decide) ?_
      refine r_goto dX6_holdsOne_101 (tgt := 105) (by decide) ?_
      refine r_scast 0 (v := (0, 1)) (w := (2, 1)) rfl cz (fun _ => Or.inr rfl) (st' := [(2, 1)]) rfl ?_
      obtain rfl := Option.some.inj hr
      exact r_ret dX6_holdsOne_105 rfl (Or.inr ⟨rfl, rfl⟩) (k0 _ hk) ⟨rfl, rfl⟩
  have hr := ifn hr hs1
  by_cases hs2 : r45 = 154
  · have hr := ifp hr hs2
    refine r_tableIn dX6_holdsOne_48 (by omega) (by omega) (off := 58) (by rw [hs2]; rfl) (tgt := 106) (by decide) ?_
    refine r_aload dX6_holdsOne_106 7 rfl (nl rfl) ?_
    refine r_aload_n dX6_holdsOne_108 rfl 5 rfl (nl rfl) ?_
    refine r_iload_n dX6_holdsOne_109 rfl 6 rfl (Or.inl rfl) ?_
    obtain ⟨r110, hg110, hr⟩ := bnd hr
    refine k_V (ci := 3) (o := a2) (T := TX3) (as := [(0, a3)]) (rest := [(20, a4)]) (X := (some (0, r110), h)) (oX3_numberAt hg110) gX3_numberAt rfl (by decide) rfl (wsl_71 _ (List.mem_of_getElem? (i := 3) rfl)) rfl dX6_holdsOne_110 rfl ?_
    obtain ⟨r113, hg113, hr⟩ := bnd hr
    refine k_V (ci := 10) (o := a4) (T := TX10) (as := [(0, r110)]) (rest := []) (X := (some (2, r113), h)) (oX10_tellsOf hg113) gX10_tellsOf rfl (by decide) rfl (wsl_71 _ (List.mem_of_getElem? (i := 4) rfl)) rfl dX6_holdsOne_113 rfl ?_
    obtain rfl := Option.some.inj hr
    exact r_ret dX6_holdsOne_116 rfl (Or.inr ⟨rfl, rfl⟩) (k0 _ hk) ⟨rfl, rfl⟩
  have hr := ifn hr hs2
  by_cases hs3 : r45 = 155
  · have hr := ifp hr hs3
    refine r_tableIn dX6_holdsOne_48 (by omega) (by omega) (off := 69) (by rw [hs3]; rfl) (tgt := 117) (by decide) ?_
    refine r_iload dX6_holdsOne_117 0 rfl (Or.inl rfl) ?_
    refine r_iload dX6_holdsOne_119 2 rfl (Or.inl rfl) ?_
    refine r_icmp_ne dX6_holdsOne_121 (tgt := 128) (by decide) (fun hc => ?_) (fun hc => ?_)
    · have hr := ifn hr hc
      refine r_iconst dX6_holdsOne_128 (by decide) ?_
      refine r_scast 0 (v := (0, 0)) (w := (2, 0)) rfl cz (fun _ => Or.inl rfl) (st' := [(2, 0)]) rfl ?_
      obtain rfl := Option.some.inj hr
      exact r_ret dX6_holdsOne_129 rfl (Or.inr ⟨rfl, rfl⟩) (k0 _ hk) ⟨rfl, rfl⟩
    · have hr := ifp hr hc
      refine r_iconst dX6_holdsOne_124 (by decide) ?_
      refine r_goto dX6_holdsOne_125 (tgt := 129) (by decide) ?_
      refine r_scast 0 (v := (0, 1)) (w := (2, 1)) rfl cz (fun _ => Or.inr rfl) (st' := [(2, 1)]) rfl ?_
      obtain rfl := Option.some.inj hr
      exact r_ret dX6_holdsOne_129 rfl (Or.inr ⟨rfl, rfl⟩) (k0 _ hk) ⟨rfl, rfl⟩
  have hr := ifn hr hs3
  by_cases hs4 : r45 = 156
  · have hr := ifp hr hs4
    refine r_tableIn dX6_holdsOne_48 (by omega) (by omega) (off := 82) (by rw [hs4]; rfl) (tgt := 130) (by decide) ?_
    refine r_aload_n dX6_holdsOne_130 rfl 5 rfl (nl rfl) ?_
    refine r_iload_n dX6_holdsOne_131 rfl 6 rfl (Or.inl rfl) ?_
    obtain ⟨r132, hg132, hr⟩ := bnd hr
    refine k_V (ci := 3) (o := a2) (T := TX3) (as := [(0, a3)]) (rest := []) (X := (some (0, r132), h)) (oX3_numberAt hg132) gX3_numberAt rfl (by decide) rfl (wsl_71 _ (List.mem_of_getElem? (i := 3) rfl)) rfl dX6_holdsOne_132 rfl ?_
    refine r_iload dX6_holdsOne_135 2 rfl (Or.inl rfl) ?_
    refine r_iload dX6_holdsOne_137 1 rfl (Or.inl rfl) ?_
    obtain ⟨r139, hg139, hr⟩ := bnd hr
    refine k_SN (host := "FollowingRefs") (as := [(0, r132), (0, r10), (0, r25)]) (rest := []) (X := (some (2, r139), h)) (oX11_compares hg139) gX11_compares rfl (List.mem_of_getElem? (i := 30) rfl) rfl dX6_holdsOne_139 rfl ?_
    obtain rfl := Option.some.inj hr
    exact r_ret dX6_holdsOne_142 rfl (Or.inr ⟨rfl, rfl⟩) (k0 _ hk) ⟨rfl, rfl⟩
  have hr := ifn hr hs4
  refine r_tableOut dX6_holdsOne_48 (by omega) (tgt := 143) (by decide) ?_
  refine r_aload_n dX6_holdsOne_143 rfl 3 rfl (nl rfl) ?_
  refine r_get 6 3 (o := a0) (w := (50, h a0 3)) (T := TX6) (ref := "FollowingRefs$Sentence") rfl (by decide) rfl (by decide) inlX6 (wsl_4 _ (List.mem_of_getElem? (i := 17) rfl)) rfl dX6_holdsOne_144 rfl ?_
  refine r_iconst dX6_holdsOne_147 (by decide) ?_
  refine r_iload dX6_holdsOne_148 8 rfl (Or.inl rfl) ?_
  refine r_imul dX6_holdsOne_150 ?_
  obtain ⟨r151, hg151, hr⟩ := bnd hr
  refine k_SN (host := "FollowingRefs") (as := [(50, h a0 3), (0, w32 (3 * a5))]) (rest := []) (X := (some (0, r151), h)) (oX11_at hg151) gX11_at rfl (List.mem_of_getElem? (i := 29) rfl) rfl dX6_holdsOne_151 rfl ?_
  refine r_iload dX6_holdsOne_154 0 rfl (Or.inl rfl) ?_
  obtain ⟨r156, hg156, hr⟩ := bnd hr
  refine k_S (as := [(0, r151), (0, r32)]) (rest := []) (X := (some (0, r156), h)) (oX6_colOf hg156) gX6_colOf rfl (wsl_71 _ (List.mem_of_getElem? (i := 8) rfl)) rfl dX6_holdsOne_156 rfl ?_
  refine r_istore dX6_holdsOne_159 (Or.inl rfl) (by decide) (lv' := [(9, (0, r156)), (8, (0, r32)), (7, (0, r25)), (6, (0, r10)), (0, (16, a0)), (1, (14, a1)), (2, (13, a2)), (3, (0, a3)), (4, (20, a4)), (5, (0, a5))]) rfl ?_
  refine r_iload dX6_holdsOne_161 0 rfl (Or.inl rfl) ?_
  refine r_iconst dX6_holdsOne_163 (by decide) ?_
  refine r_icmp_ne dX6_holdsOne_164 (tgt := 171) (by decide) (fun hc => ?_) (fun hc => ?_)
  · have hr := ifn hr hc
    refine r_aload_n dX6_holdsOne_171 rfl 6 rfl (nl rfl) ?_
    refine r_iload_n dX6_holdsOne_172 rfl 7 rfl (Or.inl rfl) ?_
    refine r_iload dX6_holdsOne_173 0 rfl (Or.inl rfl) ?_
    obtain ⟨r175, hg175, hr⟩ := bnd hr
    refine k_V (ci := 3) (o := a2) (T := TX3) (as := [(0, a3), (0, r156)]) (rest := []) (X := (some (0, r175), h)) (oX3_value hg175) gX3_value rfl (by decide) rfl (wsl_71 _ (List.mem_of_getElem? (i := 1) rfl)) rfl dX6_holdsOne_175 rfl ?_
    refine r_sub [3, 2] (lv' := [(6, (0, r10)), (7, (0, r25))]) rfl ?_
    exact oX6_holdsOne_b178 (K := K) (fun r z => k0 r z) hr hk
  · have hr := ifp hr hc
    refine r_iconst dX6_holdsOne_167 (by decide) ?_
    refine r_goto dX6_holdsOne_168 (tgt := 178) (by decide) ?_
    refine r_sub [3, 2] (lv' := [(6, (0, r10)), (7, (0, r25))]) rfl ?_
    exact oX6_holdsOne_b178 (K := K) (fun r z => k0 r z) hr hk
end M_X6_holdsOne
theorem oX6_holdsOne {l : Launch} {D : va_G} {G : gG} {h : hH} {a0 a1 a2 a3 a4 a5 : Int} {r : Int} (hr : fX6_holdsOne h a0 a1 a2 a3 a4 a5 = some r) : Ctr l D G true yX6_holdsOne M_X6_holdsOne [(16, a0), (14, a1), (13, a2), (0, a3), (20, a4), (0, a5)] h (some (2, r), h) :=
  Ctr_of (by decide) rfl (fun z => by cases z) (nl rfl) (fun {p e R s m args below meth c A H0} => by
    exact oX6_holdsOne_b0 (K := fun z9 => z9 = r) (fun r9 z => by rw [z]) hr rfl)
/-! X6_holds -/
theorem dX6_holds_0 : decode cX6_holds 0 = .ok (.iconst 0, 1) := by decide +kernel
theorem dX6_holds_1 : decode cX6_holds 1 = .ok (.istore 5, 2) := by decide +kernel
theorem dX6_holds_3 : decode cX6_holds 3 = .ok (.iconst 0, 1) := by decide +kernel
theorem dX6_holds_4 : decode cX6_holds 4 = .ok (.istore 6, 2) := by decide +kernel
theorem dX6_holds_6 : decode cX6_holds 6 = .ok (.iload 6, 2) := by decide +kernel
theorem dX6_holds_8 : decode cX6_holds 8 = .ok (.aload_n 0, 1) := by decide +kernel
theorem dX6_holds_9 : decode cX6_holds 9 = .ok (.getfield 23, 3) := by decide +kernel
theorem dX6_holds_12 : decode cX6_holds 12 = .ok (.if_icmp .ge 117, 3) := by decide +kernel
theorem dX6_holds_15 : decode cX6_holds 15 = .ok (.iload 6, 2) := by decide +kernel
theorem dX6_holds_17 : decode cX6_holds 17 = .ok (.bipush 40, 2) := by decide +kernel
theorem dX6_holds_19 : decode cX6_holds 19 = .ok (.if_icmp .ge 110, 3) := by decide +kernel
theorem dX6_holds_22 : decode cX6_holds 22 = .ok (.aload_n 0, 1) := by decide +kernel
theorem dX6_holds_23 : decode cX6_holds 23 = .ok (.getfield 9, 3) := by decide +kernel
theorem dX6_holds_26 : decode cX6_holds 26 = .ok (.iconst 3, 1) := by decide +kernel
theorem dX6_holds_27 : decode cX6_holds 27 = .ok (.iload 6, 2) := by decide +kernel
theorem dX6_holds_29 : decode cX6_holds 29 = .ok (.imul, 1) := by decide +kernel
theorem dX6_holds_30 : decode cX6_holds 30 = .ok (.invokestatic 34, 3) := by decide +kernel
theorem dX6_holds_33 : decode cX6_holds 33 = .ok (.istore 7, 2) := by decide +kernel
theorem dX6_holds_35 : decode cX6_holds 35 = .ok (.iload 7, 2) := by decide +kernel
theorem dX6_holds_37 : decode cX6_holds 37 = .ok (.sipush 151, 3) := by decide +kernel
theorem dX6_holds_40 : decode cX6_holds 40 = .ok (.if_icmp .ne 12, 3) := by decide +kernel
theorem dX6_holds_43 : decode cX6_holds 43 = .ok (.iload 5, 2) := by decide +kernel
theorem dX6_holds_45 : decode cX6_holds 45 = .ok (.iconst 1, 1) := by decide +kernel
theorem dX6_holds_46 : decode cX6_holds 46 = .ok (.ixor, 1) := by decide +kernel
theorem dX6_holds_47 : decode cX6_holds 47 = .ok (.istore 5, 2) := by decide +kernel
theorem dX6_holds_49 : decode cX6_holds 49 = .ok (.goto 74, 3) := by decide +kernel
theorem dX6_holds_52 : decode cX6_holds 52 = .ok (.iload 7, 2) := by decide +kernel
theorem dX6_holds_54 : decode cX6_holds 54 = .ok (.sipush 144, 3) := by decide +kernel
theorem dX6_holds_57 : decode cX6_holds 57 = .ok (.if_icmp .ne 18, 3) := by decide +kernel
theorem dX6_holds_60 : decode cX6_holds 60 = .ok (.iload 5, 2) := by decide +kernel
theorem dX6_holds_62 : decode cX6_holds 62 = .ok (.iconst 1, 1) := by decide +kernel
theorem dX6_holds_63 : decode cX6_holds 63 = .ok (.iushr, 1) := by decide +kernel
theorem dX6_holds_64 : decode cX6_holds 64 = .ok (.iload 5, 2) := by decide +kernel
theorem dX6_holds_66 : decode cX6_holds 66 = .ok (.bipush (-2), 2) := by decide +kernel
theorem dX6_holds_68 : decode cX6_holds 68 = .ok (.ior, 1) := by decide +kernel
theorem dX6_holds_69 : decode cX6_holds 69 = .ok (.iand, 1) := by decide +kernel
theorem dX6_holds_70 : decode cX6_holds 70 = .ok (.istore 5, 2) := by decide +kernel
theorem dX6_holds_72 : decode cX6_holds 72 = .ok (.goto 51, 3) := by decide +kernel
theorem dX6_holds_75 : decode cX6_holds 75 = .ok (.iload 7, 2) := by decide +kernel
theorem dX6_holds_77 : decode cX6_holds 77 = .ok (.sipush 150, 3) := by decide +kernel
theorem dX6_holds_80 : decode cX6_holds 80 = .ok (.if_icmp .ne 17, 3) := by decide +kernel
theorem dX6_holds_83 : decode cX6_holds 83 = .ok (.iload 5, 2) := by decide +kernel
theorem dX6_holds_85 : decode cX6_holds 85 = .ok (.iconst 1, 1) := by decide +kernel
theorem dX6_holds_86 : decode cX6_holds 86 = .ok (.iushr, 1) := by decide +kernel
theorem dX6_holds_87 : decode cX6_holds 87 = .ok (.iload 5, 2) := by decide +kernel
theorem dX6_holds_89 : decode cX6_holds 89 = .ok (.iconst 1, 1) := by decide +kernel
theorem dX6_holds_90 : decode cX6_holds 90 = .ok (.iand, 1) := by decide +kernel
theorem dX6_holds_91 : decode cX6_holds 91 = .ok (.ior, 1) := by decide +kernel
theorem dX6_holds_92 : decode cX6_holds 92 = .ok (.istore 5, 2) := by decide +kernel
theorem dX6_holds_94 : decode cX6_holds 94 = .ok (.goto 29, 3) := by decide +kernel
theorem dX6_holds_97 : decode cX6_holds 97 = .ok (.iload 5, 2) := by decide +kernel
theorem dX6_holds_99 : decode cX6_holds 99 = .ok (.iconst 1, 1) := by decide +kernel
theorem dX6_holds_100 : decode cX6_holds 100 = .ok (.ishl, 1) := by decide +kernel
theorem dX6_holds_101 : decode cX6_holds 101 = .ok (.aload_n 0, 1) := by decide +kernel
theorem dX6_holds_102 : decode cX6_holds 102 = .ok (.aload_n 1, 1) := by decide +kernel
theorem dX6_holds_103 : decode cX6_holds 103 = .ok (.aload_n 2, 1) := by decide +kernel
theorem dX6_holds_104 : decode cX6_holds 104 = .ok (.iload_n 3, 1) := by decide +kernel
theorem dX6_holds_105 : decode cX6_holds 105 = .ok (.aload 4, 2) := by decide +kernel
theorem dX6_holds_107 : decode cX6_holds 107 = .ok (.iload 6, 2) := by decide +kernel
theorem dX6_holds_109 : decode cX6_holds 109 = .ok (.invokevirtual 38, 3) := by decide +kernel
theorem dX6_holds_112 : decode cX6_holds 112 = .ok (.ifCond .eq 7, 3) := by decide +kernel
theorem dX6_holds_115 : decode cX6_holds 115 = .ok (.iconst 1, 1) := by decide +kernel
theorem dX6_holds_116 : decode cX6_holds 116 = .ok (.goto 4, 3) := by decide +kernel
theorem dX6_holds_119 : decode cX6_holds 119 = .ok (.iconst 0, 1) := by decide +kernel
theorem dX6_holds_120 : decode cX6_holds 120 = .ok (.ior, 1) := by decide +kernel
theorem dX6_holds_121 : decode cX6_holds 121 = .ok (.istore 5, 2) := by decide +kernel
theorem dX6_holds_123 : decode cX6_holds 123 = .ok (.iinc 6 1, 3) := by decide +kernel
theorem dX6_holds_126 : decode cX6_holds 126 = .ok (.goto (-120), 3) := by decide +kernel
theorem dX6_holds_129 : decode cX6_holds 129 = .ok (.iload 5, 2) := by decide +kernel
theorem dX6_holds_131 : decode cX6_holds 131 = .ok (.iconst 1, 1) := by decide +kernel
theorem dX6_holds_132 : decode cX6_holds 132 = .ok (.iand, 1) := by decide +kernel
theorem dX6_holds_133 : decode cX6_holds 133 = .ok (.iconst 1, 1) := by decide +kernel
theorem dX6_holds_134 : decode cX6_holds 134 = .ok (.if_icmp .ne 7, 3) := by decide +kernel
theorem dX6_holds_137 : decode cX6_holds 137 = .ok (.iconst 1, 1) := by decide +kernel
theorem dX6_holds_138 : decode cX6_holds 138 = .ok (.goto 4, 3) := by decide +kernel
theorem dX6_holds_141 : decode cX6_holds 141 = .ok (.iconst 0, 1) := by decide +kernel
theorem dX6_holds_142 : decode cX6_holds 142 = .ok (.ireturn, 1) := by decide +kernel
abbrev M_X6_holds : mM := (cX6_holds, 8, RX6, some .boolean, false, 5, 129, 0, 0)
theorem gX6_holds : cI yX6_holds M_X6_holds 4 := ⟨(wsl_70 _ (List.mem_of_getElem? (i := 13) rfl)), (wsl_70 _ (List.mem_of_getElem? (i := 14) rfl)), (wsl_2 _ (List.mem_of_getElem? (i := 3) rfl)), (wsl_70 _ (List.mem_of_getElem? (i := 15) rfl)), by decide +kernel⟩
noncomputable def fX6_holds_b120 (h : hH) (a0 a1 a2 a3 a4 l6 s0 s1 : Int) : Option ((Int × Int) ⊕ (Int)) :=
  some (.inl (iorD s1 s0, w32 (l6 + 1)))
noncomputable def fX6_holds_b129 (h : hH) (l5 : Int) : Option (Int) :=
  if iadD l5 1 = 1 then
    some 1
  else
    some 0
noncomputable def fX6_holds_s6 (h : hH) (a0 a1 a2 a3 a4 : Int) : Int × Int → Option ((Int × Int) ⊕ (Int)) := fun (l5, l6) =>
  if l6 < h a0 2 then
    if l6 < 40 then
      (fX11_at h (h a0 3) (w32 (3 * l6))).bind fun r30 =>
      if r30 = 151 then
        some (.inl (ixoD l5 1, w32 (l6 + 1)))
      else
        if r30 = 144 then
          some (.inl (iadD (iusD l5 1) (iorD l5 (-2)), w32 (l6 + 1)))
        else
          if r30 = 150 then
            some (.inl (iorD (iusD l5 1) (iadD l5 1), w32 (l6 + 1)))
          else
            (fX6_holdsOne h a0 a1 a2 a3 a4 l6).bind fun r109 =>
            if r109 = 0 then
              fX6_holds_b120 h a0 a1 a2 a3 a4 l6 0 (ishD l5 1)
            else
              fX6_holds_b120 h a0 a1 a2 a3 a4 l6 1 (ishD l5 1)
    else
      (fX6_holds_b129 h l5).map (fun z9 => .inr (z9))
  else
    (fX6_holds_b129 h l5).map (fun z9 => .inr (z9))
noncomputable def fX6_holds (h : hH) (a0 a1 a2 a3 a4 : Int) : Option (Int) :=
  lpO (fX6_holds_s6 h a0 a1 a2 a3 a4) (0, 0)
section M_X6_holds
variable {p : Program} {l : Launch} {e : Env} {R : Room} {s : State} {m : MethodId} {args : Array Value} {below : List Frame} {meth : Method} {c : Code} {D : va_G} {G : gG} {A : Nat → Prop} {H0 : Heap} {n0 : Int} {x : Option vV × hH} {h : hH}
set_option maxRecDepth 100000 in
set_option maxHeartbeats 4000000 in
theorem oX6_holds_b120 {a0 a1 a2 a3 a4 l6 s0 s1 : Int} {K : (Int × Int) ⊕ (Int) → Prop} (k0 : ∀ r, K (.inr (r)) → x = (some (2, r), h)) (k1 : ∀ (l5 : Int) (l6 : Int), K (.inl (l5, l6)) → Wq p l e R s m args below meth c D G A H0 true n0 M_X6_holds x 0 0 6 [(0, (16, a0)), (1, (14, a1)), (2, (13, a2)), (3, (0, a3)), (4, (20, a4)), (5, (0, l5)), (6, (0, l6))] [] h) {r : (Int × Int) ⊕ (Int)} (hr : fX6_holds_b120 h a0 a1 a2 a3 a4 l6 s0 s1 = some r) (hk : K r) : Wq p l e R s m args below meth c D G A H0 true n0 M_X6_holds x 0 0 120 [(0, (16, a0)), (1, (14, a1)), (2, (13, a2)), (3, (0, a3)), (4, (20, a4)), (6, (0, l6))] [(2, s0), (0, s1)] h := by
  unfold fX6_holds_b120 at hr
  refine r_scast 0 (v := (2, s0)) (w := (0, s0)) rfl zc hTz (st' := [(0, s0), (0, s1)]) rfl ?_
  refine r_ior dX6_holds_120 ?_
  refine r_istore dX6_holds_121 (Or.inl rfl) (by decide) (lv' := [(5, (0, iorD s1 s0)), (0, (16, a0)), (1, (14, a1)), (2, (13, a2)), (3, (0, a3)), (4, (20, a4)), (6, (0, l6))]) rfl ?_
  refine r_iinc (k := 6) (v := l6) dX6_holds_123 rfl (by decide) (lv' := [(6, (0, w32 (l6 + 1))), (5, (0, iorD s1 s0)), (0, (16, a0)), (1, (14, a1)), (2, (13, a2)), (3, (0, a3)), (4, (20, a4))]) rfl ?_
  refine r_goto dX6_holds_126 (tgt := 6) (by decide) ?_
  refine r_sub [2, 3, 4, 5, 6, 1, 0] (lv' := [(0, (16, a0)), (1, (14, a1)), (2, (13, a2)), (3, (0, a3)), (4, (20, a4)), (5, (0, iorD s1 s0)), (6, (0, w32 (l6 + 1)))]) rfl ?_
  obtain rfl := Option.some.inj hr
  exact k1 _ _ hk
set_option maxRecDepth 100000 in
set_option maxHeartbeats 4000000 in
theorem oX6_holds_b129 {l5 : Int} {K : Int → Prop} (k0 : ∀ r, K (r) → x = (some (2, r), h)) {r : Int} (hr : fX6_holds_b129 h l5 = some r) (hk : K r) : Wq p l e R s m args below meth c D G A H0 true n0 M_X6_holds x 0 0 129 [(5, (0, l5))] [] h := by
  unfold fX6_holds_b129 at hr
  refine r_iload dX6_holds_129 0 rfl (Or.inl rfl) ?_
  refine r_iconst dX6_holds_131 (by decide) ?_
  refine r_iand dX6_holds_132 ?_
  refine r_iconst dX6_holds_133 (by decide) ?_
  refine r_icmp_ne dX6_holds_134 (tgt := 141) (by decide) (fun hc => ?_) (fun hc => ?_)
  · have hr := ifn hr hc
    refine r_iconst dX6_holds_141 (by decide) ?_
    refine r_scast 0 (v := (0, 0)) (w := (2, 0)) rfl cz (fun _ => Or.inl rfl) (st' := [(2, 0)]) rfl ?_
    obtain rfl := Option.some.inj hr
    exact r_ret dX6_holds_142 rfl (Or.inr ⟨rfl, rfl⟩) (k0 _ hk) ⟨rfl, rfl⟩
  · have hr := ifp hr hc
    refine r_iconst dX6_holds_137 (by decide) ?_
    refine r_goto dX6_holds_138 (tgt := 142) (by decide) ?_
    refine r_scast 0 (v := (0, 1)) (w := (2, 1)) rfl cz (fun _ => Or.inr rfl) (st' := [(2, 1)]) rfl ?_
    obtain rfl := Option.some.inj hr
    exact r_ret dX6_holds_142 rfl (Or.inr ⟨rfl, rfl⟩) (k0 _ hk) ⟨rfl, rfl⟩
set_option maxRecDepth 100000 in
set_option maxHeartbeats 4000000 in
theorem oX6_holds_s6 {a0 a1 a2 a3 a4 l5 l6 : Int} {K : (Int × Int) ⊕ (Int) → Prop} (k0 : ∀ r, K (.inr (r)) → x = (some (2, r), h)) (k1 : ∀ (l5 : Int) (l6 : Int), K (.inl (l5, l6)) → Wq p l e R s m args below meth c D G A H0 true n0 M_X6_holds x 0 0 6 [(0, (16, a0)), (1, (14, a1)), (2, (13, a2)), (3, (0, a3)), (4, (20, a4)), (5, (0, l5)), (6, (0, l6))] [] h) {r : (Int × Int) ⊕ (Int)} (hr : fX6_holds_s6 h a0 a1 a2 a3 a4 (l5, l6) = some r) (hk : K r) : Wq p l e R s m args below meth c D G A H0 true n0 M_X6_holds x 0 0 6 [(0, (16, a0)), (1, (14, a1)), (2, (13, a2)), (3, (0, a3)), (4, (20, a4)), (5, (0, l5)), (6, (0, l6))] [] h := by
  unfold fX6_holds_s6 at hr
  refine r_iload dX6_holds_6 6 rfl (Or.inl rfl) ?_
  refine r_aload_n dX6_holds_8 rfl 0 rfl (nl rfl) ?_
  refine r_get 6 2 (o := a0) (w := (0, h a0 2)) (T := TX6) (ref := "FollowingRefs$Sentence") rfl (by decide) rfl (by decide) inlX6 (wsl_23 _ (List.mem_of_getElem? (i := 7) rfl)) rfl dX6_holds_9 rfl ?_
  refine r_icmp_ge dX6_holds_12 (tgt := 129) (by decide) (fun hc => ?_) (fun hc => ?_)
  · have hr := ifn hr hc
    refine r_sub [5] (lv' := [(5, (0, l5))]) rfl ?_
    obtain ⟨r9, hr9, rfl⟩ := mpp hr
    exact oX6_holds_b129 (K := fun z9 => K (.inr (z9))) (fun r z => k0 r z) hr9 hk
  · have hr := ifp hr hc
    refine r_iload dX6_holds_15 6 rfl (Or.inl rfl) ?_
    refine r_bipush dX6_holds_17 (by decide) (by decide) ?_
    refine r_icmp_ge dX6_holds_19 (tgt := 129) (by decide) (fun hc => ?_) (fun hc => ?_)
    · have hr := ifn hr hc
      refine r_sub [5] (lv' := [(5, (0, l5))]) rfl ?_
      obtain ⟨r9, hr9, rfl⟩ := mpp hr
      exact oX6_holds_b129 (K := fun z9 => K (.inr (z9))) (fun r z => k0 r z) hr9 hk
    · have hr := ifp hr hc
      refine r_aload_n dX6_holds_22 rfl 0 rfl (nl rfl) ?_
      refine r_get 6 3 (o := a0) (w := (50, h a0 3)) (T := TX6) (ref := "FollowingRefs$Sentence") rfl (by decide) rfl (by decide) inlX6 (wsl_4 _ (List.mem_of_getElem? (i := 17) rfl)) rfl dX6_holds_23 rfl ?_
      refine r_iconst dX6_holds_26 (by decide) ?_
      refine r_iload dX6_holds_27 6 rfl (Or.inl rfl) ?_
      refine r_imul dX6_holds_29 ?_
      obtain ⟨r30, hg30, hr⟩ := bnd hr
      refine k_SN (host := "FollowingRefs") (as := [(50, h a0 3), (0, w32 (3 * l6))]) (rest := []) (X := (some (0, r30), h)) (oX11_at hg30) gX11_at rfl (List.mem_of_getElem? (i := 29) rfl) rfl dX6_holds_30 rfl ?_
      refine r_istore dX6_holds_33 (Or.inl rfl) (by decide) (lv' := [(7, (0, r30)), (0, (16, a0)), (1, (14, a1)), (2, (13, a2)), (3, (0, a3)), (4, (20, a4)), (5, (0, l5)), (6, (0, l6))]) rfl ?_
      refine r_iload dX6_holds_35 0 rfl (Or.inl rfl) ?_
      refine r_sipush dX6_holds_37 (by decide) (by decide) ?_
      refine r_icmp_ne dX6_holds_40 (tgt := 52) (by decide) (fun hc => ?_) (fun hc => ?_)
      · have hr := ifn hr hc
        refine r_iload dX6_holds_52 0 rfl (Or.inl rfl) ?_
        refine r_sipush dX6_holds_54 (by decide) (by decide) ?_
        refine r_icmp_ne dX6_holds_57 (tgt := 75) (by decide) (fun hc => ?_) (fun hc => ?_)
        · have hr := ifn hr hc
          refine r_iload dX6_holds_75 0 rfl (Or.inl rfl) ?_
          refine r_sipush dX6_holds_77 (by decide) (by decide) ?_
          refine r_icmp_ne dX6_holds_80 (tgt := 97) (by decide) (fun hc => ?_) (fun hc => ?_)
          · have hr := ifn hr hc
            refine r_iload dX6_holds_97 6 rfl (Or.inl rfl) ?_
            refine r_iconst dX6_holds_99 (by decide) ?_
            refine r_ishl dX6_holds_100 ?_
            refine r_aload_n dX6_holds_101 rfl 1 rfl (nl rfl) ?_
            refine r_aload_n dX6_holds_102 rfl 2 rfl (nl rfl) ?_
            refine r_aload_n dX6_holds_103 rfl 3 rfl (nl rfl) ?_
            refine r_iload_n dX6_holds_104 rfl 4 rfl (Or.inl rfl) ?_
            refine r_aload dX6_holds_105 5 rfl (nl rfl) ?_
            refine r_iload dX6_holds_107 7 rfl (Or.inl rfl) ?_
            obtain ⟨r109, hg109, hr⟩ := bnd hr
            refine k_V (ci := 6) (o := a0) (T := TX6) (as := [(14, a1), (13, a2), (0, a3), (20, a4), (0, l6)]) (rest := [(0, ishD l5 1)]) (X := (some (2, r109), h)) (oX6_holdsOne hg109) gX6_holdsOne rfl (by decide) rfl (wsl_70 _ (List.mem_of_getElem? (i := 16) rfl)) rfl dX6_holds_109 rfl ?_
            refine r_scast 0 (v := (2, r109)) (w := (0, r109)) rfl zc hTz (st' := [(0, r109), (0, ishD l5 1)]) rfl ?_
            refine r_if_eq dX6_holds_112 (tgt := 119) (by decide) (fun hc => ?_) (fun hc => ?_)
            · have hr := ifp hr hc
              refine r_iconst dX6_holds_119 (by decide) ?_
              refine r_sub [1, 2, 3, 4, 5, 7] (lv' := [(0, (16, a0)), (1, (14, a1)), (2, (13, a2)), (3, (0, a3)), (4, (20, a4)), (6, (0, l6))]) rfl ?_
              refine r_scast 0 (v := (0, 0)) (w := (2, 0)) rfl cz (fun _ => Or.inl rfl) (st' := [(2, 0), (0, ishD l5 1)]) rfl ?_
              exact oX6_holds_b120 (K := K) (fun r z => k0 r z) (fun _ _ z => k1 _ _ z) hr hk
            · have hr := ifn hr hc
              refine r_iconst dX6_holds_115 (by decide) ?_
              refine r_goto dX6_holds_116 (tgt := 120) (by decide) ?_
              refine r_sub [1, 2, 3, 4, 5, 7] (lv' := [(0, (16, a0)), (1, (14, a1)), (2, (13, a2)), (3, (0, a3)), (4, (20, a4)), (6, (0, l6))]) rfl ?_
              refine r_scast 0 (v := (0, 1)) (w := (2, 1)) rfl cz (fun _ => Or.inr rfl) (st' := [(2, 1), (0, ishD l5 1)]) rfl ?_
              exact oX6_holds_b120 (K := K) (fun r z => k0 r z) (fun _ _ z => k1 _ _ z) hr hk
          · have hr := ifp hr hc
            refine r_iload dX6_holds_83 6 rfl (Or.inl rfl) ?_
            refine r_iconst dX6_holds_85 (by decide) ?_
            refine r_iushr dX6_holds_86 ?_
            refine r_iload dX6_holds_87 6 rfl (Or.inl rfl) ?_
            refine r_iconst dX6_holds_89 (by decide) ?_
            refine r_iand dX6_holds_90 ?_
            refine r_ior dX6_holds_91 ?_
            refine r_istore dX6_holds_92 (Or.inl rfl) (by decide) (lv' := [(5, (0, iorD (iusD l5 1) (iadD l5 1))), (7, (0, r30)), (0, (16, a0)), (1, (14, a1)), (2, (13, a2)), (3, (0, a3)), (4, (20, a4)), (6, (0, l6))]) rfl ?_
            refine r_goto dX6_holds_94 (tgt := 123) (by decide) ?_
            refine r_iinc (k := 7) (v := l6) dX6_holds_123 rfl (by decide) (lv' := [(6, (0, w32 (l6 + 1))), (5, (0, iorD (iusD l5 1) (iadD l5 1))), (7, (0, r30)), (0, (16, a0)), (1, (14, a1)), (2, (13, a2)), (3, (0, a3)), (4, (20, a4))]) rfl ?_
            refine r_goto dX6_holds_126 (tgt := 6) (by decide) ?_
            refine r_sub [3, 4, 5, 6, 7, 1, 0] (lv' := [(0, (16, a0)), (1, (14, a1)), (2, (13, a2)), (3, (0, a3)), (4, (20, a4)), (5, (0, iorD (iusD l5 1) (iadD l5 1))), (6, (0, w32 (l6 + 1)))]) rfl ?_
            obtain rfl := Option.some.inj hr
            exact k1 _ _ hk
        · have hr := ifp hr hc
          refine r_iload dX6_holds_60 6 rfl (Or.inl rfl) ?_
          refine r_iconst dX6_holds_62 (by decide) ?_
          refine r_iushr dX6_holds_63 ?_
          refine r_iload dX6_holds_64 6 rfl (Or.inl rfl) ?_
          refine r_bipush dX6_holds_66 (by decide) (by decide) ?_
          refine r_ior dX6_holds_68 ?_
          refine r_iand dX6_holds_69 ?_
          refine r_istore dX6_holds_70 (Or.inl rfl) (by decide) (lv' := [(5, (0, iadD (iusD l5 1) (iorD l5 (-2)))), (7, (0, r30)), (0, (16, a0)), (1, (14, a1)), (2, (13, a2)), (3, (0, a3)), (4, (20, a4)), (6, (0, l6))]) rfl ?_
          refine r_goto dX6_holds_72 (tgt := 123) (by decide) ?_
          refine r_iinc (k := 7) (v := l6) dX6_holds_123 rfl (by decide) (lv' := [(6, (0, w32 (l6 + 1))), (5, (0, iadD (iusD l5 1) (iorD l5 (-2)))), (7, (0, r30)), (0, (16, a0)), (1, (14, a1)), (2, (13, a2)), (3, (0, a3)), (4, (20, a4))]) rfl ?_
          refine r_goto dX6_holds_126 (tgt := 6) (by decide) ?_
          refine r_sub [3, 4, 5, 6, 7, 1, 0] (lv' := [(0, (16, a0)), (1, (14, a1)), (2, (13, a2)), (3, (0, a3)), (4, (20, a4)), (5, (0, iadD (iusD l5 1) (iorD l5 (-2)))), (6, (0, w32 (l6 + 1)))]) rfl ?_
          obtain rfl := Option.some.inj hr
          exact k1 _ _ hk
      · have hr := ifp hr hc
        refine r_iload dX6_holds_43 6 rfl (Or.inl rfl) ?_
        refine r_iconst dX6_holds_45 (by decide) ?_
        refine r_ixor dX6_holds_46 ?_
        refine r_istore dX6_holds_47 (Or.inl rfl) (by decide) (lv' := [(5, (0, ixoD l5 1)), (7, (0, r30)), (0, (16, a0)), (1, (14, a1)), (2, (13, a2)), (3, (0, a3)), (4, (20, a4)), (6, (0, l6))]) rfl ?_
        refine r_goto dX6_holds_49 (tgt := 123) (by decide) ?_
        refine r_iinc (k := 7) (v := l6) dX6_holds_123 rfl (by decide) (lv' := [(6, (0, w32 (l6 + 1))), (5, (0, ixoD l5 1)), (7, (0, r30)), (0, (16, a0)), (1, (14, a1)), (2, (13, a2)), (3, (0, a3)), (4, (20, a4))]) rfl ?_
        refine r_goto dX6_holds_126 (tgt := 6) (by decide) ?_
        refine r_sub [3, 4, 5, 6, 7, 1, 0] (lv' := [(0, (16, a0)), (1, (14, a1)), (2, (13, a2)), (3, (0, a3)), (4, (20, a4)), (5, (0, ixoD l5 1)), (6, (0, w32 (l6 + 1)))]) rfl ?_
        obtain rfl := Option.some.inj hr
        exact k1 _ _ hk
set_option maxRecDepth 100000 in
set_option maxHeartbeats 4000000 in
theorem oX6_holds_b0 {a0 a1 a2 a3 a4 : Int} {K : Int → Prop} (k0 : ∀ r, K (r) → x = (some (2, r), h)) {r : Int} (hr : fX6_holds h a0 a1 a2 a3 a4 = some r) (hk : K r) : Wq p l e R s m args below meth c D G A H0 true n0 M_X6_holds x 0 0 0 [(0, (16, a0)), (1, (14, a1)), (2, (13, a2)), (3, (0, a3)), (4, (20, a4))] [] h := by
  unfold fX6_holds at hr
  refine r_iconst dX6_holds_0 (by decide) ?_
  refine r_istore dX6_holds_1 (Or.inl rfl) (by decide) (lv' := [(5, (0, 0)), (0, (16, a0)), (1, (14, a1)), (2, (13, a2)), (3, (0, a3)), (4, (20, a4))]) rfl ?_
  refine r_iconst dX6_holds_3 (by decide) ?_
  refine r_istore dX6_holds_4 (Or.inl rfl) (by decide) (lv' := [(6, (0, 0)), (5, (0, 0)), (0, (16, a0)), (1, (14, a1)), (2, (13, a2)), (3, (0, a3)), (4, (20, a4))]) rfl ?_
  refine r_sub [2, 3, 4, 5, 6, 1, 0] (lv' := [(0, (16, a0)), (1, (14, a1)), (2, (13, a2)), (3, (0, a3)), (4, (20, a4)), (5, (0, 0)), (6, (0, 0))]) rfl ?_
  exact lp_ok (w := fun (q : Int × Int) => Wq p l e R s m args below meth c D G A H0 true n0 M_X6_holds x 0 0 6 [(0, (16, a0)), (1, (14, a1)), (2, (13, a2)), (3, (0, a3)), (4, (20, a4)), (5, (0, q.1)), (6, (0, q.2))] [] (h)) (K := K) (fun ⟨q0, q1⟩ r h1 h2 => oX6_holds_s6 (K := Sum.elim (fun (q : Int × Int) => Wq p l e R s m args below meth c D G A H0 true n0 M_X6_holds x 0 0 6 [(0, (16, a0)), (1, (14, a1)), (2, (13, a2)), (3, (0, a3)), (4, (20, a4)), (5, (0, q.1)), (6, (0, q.2))] [] (h)) (K)) (fun r z => k0 r z) (fun _ _ z => z) h1 h2) hr hk
end M_X6_holds
theorem oX6_holds {l : Launch} {D : va_G} {G : gG} {h : hH} {a0 a1 a2 a3 a4 : Int} {r : Int} (hr : fX6_holds h a0 a1 a2 a3 a4 = some r) : Ctr l D G true yX6_holds M_X6_holds [(16, a0), (14, a1), (13, a2), (0, a3), (20, a4)] h (some (2, r), h) :=
  Ctr_of (by decide) rfl (fun z => by cases z) (nl rfl) (fun {p e R s m args below meth c A H0} => by
    exact oX6_holds_b0 (K := fun z9 => z9 = r) (fun r9 z => by rw [z]) hr rfl)
/-! X6_colsNamed -/
theorem dX6_colsNamed_0 : decode cX6_colsNamed 0 = .ok (.iconst 0, 1) := by decide +kernel
theorem dX6_colsNamed_1 : decode cX6_colsNamed 1 = .ok (.istore_n 3, 1) := by decide +kernel
theorem dX6_colsNamed_2 : decode cX6_colsNamed 2 = .ok (.iconst 0, 1) := by decide +kernel
theorem dX6_colsNamed_3 : decode cX6_colsNamed 3 = .ok (.istore 4, 2) := by decide +kernel
theorem dX6_colsNamed_5 : decode cX6_colsNamed 5 = .ok (.iload 4, 2) := by decide +kernel
theorem dX6_colsNamed_7 : decode cX6_colsNamed 7 = .ok (.aload_n 0, 1) := by decide +kernel
theorem dX6_colsNamed_8 : decode cX6_colsNamed 8 = .ok (.getfield 81, 3) := by decide +kernel
theorem dX6_colsNamed_11 : decode cX6_colsNamed 11 = .ok (.if_icmp .ge 26, 3) := by decide +kernel
theorem dX6_colsNamed_14 : decode cX6_colsNamed 14 = .ok (.iload_n 3, 1) := by decide +kernel
theorem dX6_colsNamed_15 : decode cX6_colsNamed 15 = .ok (.aload_n 0, 1) := by decide +kernel
theorem dX6_colsNamed_16 : decode cX6_colsNamed 16 = .ok (.iload 4, 2) := by decide +kernel
theorem dX6_colsNamed_18 : decode cX6_colsNamed 18 = .ok (.lload_n 1, 1) := by decide +kernel
theorem dX6_colsNamed_19 : decode cX6_colsNamed 19 = .ok (.invokevirtual 84, 3) := by decide +kernel
theorem dX6_colsNamed_22 : decode cX6_colsNamed 22 = .ok (.iconst 1, 1) := by decide +kernel
theorem dX6_colsNamed_23 : decode cX6_colsNamed 23 = .ok (.iadd, 1) := by decide +kernel
theorem dX6_colsNamed_24 : decode cX6_colsNamed 24 = .ok (.iconst 3, 1) := by decide +kernel
theorem dX6_colsNamed_25 : decode cX6_colsNamed 25 = .ok (.iload 4, 2) := by decide +kernel
theorem dX6_colsNamed_27 : decode cX6_colsNamed 27 = .ok (.imul, 1) := by decide +kernel
theorem dX6_colsNamed_28 : decode cX6_colsNamed 28 = .ok (.ishl, 1) := by decide +kernel
theorem dX6_colsNamed_29 : decode cX6_colsNamed 29 = .ok (.ior, 1) := by decide +kernel
theorem dX6_colsNamed_30 : decode cX6_colsNamed 30 = .ok (.istore_n 3, 1) := by decide +kernel
theorem dX6_colsNamed_31 : decode cX6_colsNamed 31 = .ok (.iinc 4 1, 3) := by decide +kernel
theorem dX6_colsNamed_34 : decode cX6_colsNamed 34 = .ok (.goto (-29), 3) := by decide +kernel
theorem dX6_colsNamed_37 : decode cX6_colsNamed 37 = .ok (.iload_n 3, 1) := by decide +kernel
theorem dX6_colsNamed_38 : decode cX6_colsNamed 38 = .ok (.ineg, 1) := by decide +kernel
theorem dX6_colsNamed_39 : decode cX6_colsNamed 39 = .ok (.ireturn, 1) := by decide +kernel
abbrev M_X6_colsNamed : mM := (cX6_colsNamed, 5, RX6, some .int, false, 1, 26, 0, 0)
theorem gX6_colsNamed : cS yX6_colsNamed M_X6_colsNamed 2 := ⟨(wsl_68 _ (List.mem_of_getElem? (i := 1) rfl)), (wsl_2 _ (List.mem_of_getElem? (i := 3) rfl)), (wsl_68 _ (List.mem_of_getElem? (i := 2) rfl)), by decide +kernel⟩
noncomputable def fX6_colsNamed_s5 (h : hH) (a0 a1 : Int) : Int × Int → Option ((Int × Int) ⊕ (Int)) := fun (l3, l4) =>
  if l4 < h a0 0 then
    (fX4_colNamed h a0 l4 a1).bind fun r19 =>
    some (.inl (iorD l3 (ishD (w32 (r19 + 1)) (w32 (3 * l4))), w32 (l4 + 1)))
  else
    some (.inr (w32 (-l3)))
noncomputable def fX6_colsNamed (h : hH) (a0 a1 : Int) : Option (Int) :=
  lpO (fX6_colsNamed_s5 h a0 a1) (0, 0)
section M_X6_colsNamed
variable {p : Program} {l : Launch} {e : Env} {R : Room} {s : State} {m : MethodId} {args : Array Value} {below : List Frame} {meth : Method} {c : Code} {D : va_G} {G : gG} {A : Nat → Prop} {H0 : Heap} {n0 : Int} {x : Option vV × hH} {h : hH}
set_option maxRecDepth 100000 in
set_option maxHeartbeats 4000000 in
theorem oX6_colsNamed_s5 {a0 a1 l3 l4 : Int} {K : (Int × Int) ⊕ (Int) → Prop} (k0 : ∀ r, K (.inr (r)) → x = (some (0, r), h)) (k1 : ∀ (l3 : Int) (l4 : Int), K (.inl (l3, l4)) → Wq p l e R s m args below meth c D G A H0 true n0 M_X6_colsNamed x 0 0 5 [(0, (14, a0)), (1, (1, a1)), (3, (0, l3)), (4, (0, l4))] [] h) {r : (Int × Int) ⊕ (Int)} (hr : fX6_colsNamed_s5 h a0 a1 (l3, l4) = some r) (hk : K r) : Wq p l e R s m args below meth c D G A H0 true n0 M_X6_colsNamed x 0 0 5 [(0, (14, a0)), (1, (1, a1)), (3, (0, l3)), (4, (0, l4))] [] h := by
  unfold fX6_colsNamed_s5 at hr
  refine r_iload dX6_colsNamed_5 3 rfl (Or.inl rfl) ?_
  refine r_aload_n dX6_colsNamed_7 rfl 0 rfl (nl rfl) ?_
  refine r_get 4 0 (o := a0) (w := (0, h a0 0)) (T := TX4) (ref := "FollowingRefs$Schema") rfl (by decide) rfl (by decide) inlX4 (wsl_68 _ (List.mem_of_getElem? (i := 3) rfl)) rfl dX6_colsNamed_8 rfl ?_
  refine r_icmp_ge dX6_colsNamed_11 (tgt := 37) (by decide) (fun hc => ?_) (fun hc => ?_)
  · have hr := ifn hr hc
    refine r_iload_n dX6_colsNamed_37 rfl 2 rfl (Or.inl rfl) ?_
    refine r_ineg dX6_colsNamed_38 ?_
    obtain rfl := Option.some.inj hr
    exact r_ret dX6_colsNamed_39 rfl (Or.inl ⟨rfl, rfl⟩) (k0 _ hk) ⟨rfl, rfl⟩
  · have hr := ifp hr hc
    refine r_iload_n dX6_colsNamed_14 rfl 2 rfl (Or.inl rfl) ?_
    refine r_aload_n dX6_colsNamed_15 rfl 0 rfl (nl rfl) ?_
    refine r_iload dX6_colsNamed_16 3 rfl (Or.inl rfl) ?_
    refine r_lload_n dX6_colsNamed_18 rfl 1 rfl ?_
    obtain ⟨r19, hg19, hr⟩ := bnd hr
    refine k_V (ci := 4) (o := a0) (T := TX4) (as := [(0, l4), (1, a1)]) (rest := [(0, l3)]) (X := (some (0, r19), h)) (oX4_colNamed hg19) gX4_colNamed rfl (by decide) rfl (wsl_68 _ (List.mem_of_getElem? (i := 4) rfl)) rfl dX6_colsNamed_19 rfl ?_
    refine r_iconst dX6_colsNamed_22 (by decide) ?_
    refine r_iadd dX6_colsNamed_23 ?_
    refine r_iconst dX6_colsNamed_24 (by decide) ?_
    refine r_iload dX6_colsNamed_25 3 rfl (Or.inl rfl) ?_
    refine r_imul dX6_colsNamed_27 ?_
    refine r_ishl dX6_colsNamed_28 ?_
    refine r_ior dX6_colsNamed_29 ?_
    refine r_istore_n dX6_colsNamed_30 rfl (Or.inl rfl) (by decide) (lv' := [(3, (0, iorD l3 (ishD (w32 (r19 + 1)) (w32 (3 * l4))))), (0, (14, a0)), (1, (1, a1)), (4, (0, l4))]) rfl ?_
    refine r_iinc (k := 3) (v := l4) dX6_colsNamed_31 rfl (by decide) (lv' := [(4, (0, w32 (l4 + 1))), (3, (0, iorD l3 (ishD (w32 (r19 + 1)) (w32 (3 * l4))))), (0, (14, a0)), (1, (1, a1))]) rfl ?_
    refine r_goto dX6_colsNamed_34 (tgt := 5) (by decide) ?_
    refine r_sub [2, 3, 1, 0] (lv' := [(0, (14, a0)), (1, (1, a1)), (3, (0, iorD l3 (ishD (w32 (r19 + 1)) (w32 (3 * l4))))), (4, (0, w32 (l4 + 1)))]) rfl ?_
    obtain rfl := Option.some.inj hr
    exact k1 _ _ hk
set_option maxRecDepth 100000 in
set_option maxHeartbeats 4000000 in
theorem oX6_colsNamed_b0 {a0 a1 : Int} {K : Int → Prop} (k0 : ∀ r, K (r) → x = (some (0, r), h)) {r : Int} (hr : fX6_colsNamed h a0 a1 = some r) (hk : K r) : Wq p l e R s m args below meth c D G A H0 true n0 M_X6_colsNamed x 0 0 0 [(0, (14, a0)), (1, (1, a1))] [] h := by
  unfold fX6_colsNamed at hr
  refine r_iconst dX6_colsNamed_0 (by decide) ?_
  refine r_istore_n dX6_colsNamed_1 rfl (Or.inl rfl) (by decide) (lv' := [(3, (0, 0)), (0, (14, a0)), (1, (1, a1))]) rfl ?_
  refine r_iconst dX6_colsNamed_2 (by decide) ?_
  refine r_istore dX6_colsNamed_3 (Or.inl rfl) (by decide) (lv' := [(4, (0, 0)), (3, (0, 0)), (0, (14, a0)), (1, (1, a1))]) rfl ?_
  refine r_sub [2, 3, 1, 0] (lv' := [(0, (14, a0)), (1, (1, a1)), (3, (0, 0)), (4, (0, 0))]) rfl ?_
  exact lp_ok (w := fun (q : Int × Int) => Wq p l e R s m args below meth c D G A H0 true n0 M_X6_colsNamed x 0 0 5 [(0, (14, a0)), (1, (1, a1)), (3, (0, q.1)), (4, (0, q.2))] [] (h)) (K := K) (fun ⟨q0, q1⟩ r h1 h2 => oX6_colsNamed_s5 (K := Sum.elim (fun (q : Int × Int) => Wq p l e R s m args below meth c D G A H0 true n0 M_X6_colsNamed x 0 0 5 [(0, (14, a0)), (1, (1, a1)), (3, (0, q.1)), (4, (0, q.2))] [] (h)) (K)) (fun r z => k0 r z) (fun _ _ z => z) h1 h2) hr hk
end M_X6_colsNamed
theorem oX6_colsNamed {l : Launch} {D : va_G} {G : gG} {h : hH} {a0 a1 : Int} {r : Int} (hr : fX6_colsNamed h a0 a1 = some r) : Ctr l D G true yX6_colsNamed M_X6_colsNamed [(14, a0), (1, a1)] h (some (0, r), h) :=
  Ctr_of (by decide) rfl (fun z => by cases z) (nl rfl) (fun {p e R s m args below meth c A H0} => by
    exact oX6_colsNamed_b0 (K := fun z9 => z9 = r) (fun r9 z => by rw [z]) hr rfl)
/-! X7_startsOne -/
theorem dX7_startsOne_0 : decode cX7_startsOne 0 = .ok (.iload_n 0, 1) := by decide +kernel
theorem dX7_startsOne_1 : decode cX7_startsOne 1 = .ok (.iconst 4, 1) := by decide +kernel
theorem dX7_startsOne_2 : decode cX7_startsOne 2 = .ok (.if_icmp .eq 51, 3) := by decide +kernel
theorem dX7_startsOne_5 : decode cX7_startsOne 5 = .ok (.iload_n 0, 1) := by decide +kernel
theorem dX7_startsOne_6 : decode cX7_startsOne 6 = .ok (.sipush 151, 3) := by decide +kernel
theorem dX7_startsOne_9 : decode cX7_startsOne 9 = .ok (.if_icmp .eq 44, 3) := by decide +kernel
theorem dX7_startsOne_12 : decode cX7_startsOne 12 = .ok (.iload_n 0, 1) := by decide +kernel
theorem dX7_startsOne_13 : decode cX7_startsOne 13 = .ok (.bipush 40, 2) := by decide +kernel
theorem dX7_startsOne_15 : decode cX7_startsOne 15 = .ok (.if_icmp .eq 38, 3) := by decide +kernel
theorem dX7_startsOne_18 : decode cX7_startsOne 18 = .ok (.iload_n 0, 1) := by decide +kernel
theorem dX7_startsOne_19 : decode cX7_startsOne 19 = .ok (.sipush 152, 3) := by decide +kernel
theorem dX7_startsOne_22 : decode cX7_startsOne 22 = .ok (.if_icmp .eq 31, 3) := by decide +kernel
theorem dX7_startsOne_25 : decode cX7_startsOne 25 = .ok (.iload_n 0, 1) := by decide +kernel
theorem dX7_startsOne_26 : decode cX7_startsOne 26 = .ok (.sipush 153, 3) := by decide +kernel
theorem dX7_startsOne_29 : decode cX7_startsOne 29 = .ok (.if_icmp .eq 24, 3) := by decide +kernel
theorem dX7_startsOne_32 : decode cX7_startsOne 32 = .ok (.iload_n 0, 1) := by decide +kernel
theorem dX7_startsOne_33 : decode cX7_startsOne 33 = .ok (.sipush 154, 3) := by decide +kernel
theorem dX7_startsOne_36 : decode cX7_startsOne 36 = .ok (.if_icmp .eq 17, 3) := by decide +kernel
theorem dX7_startsOne_39 : decode cX7_startsOne 39 = .ok (.iload_n 0, 1) := by decide +kernel
theorem dX7_startsOne_40 : decode cX7_startsOne 40 = .ok (.sipush 155, 3) := by decide +kernel
theorem dX7_startsOne_43 : decode cX7_startsOne 43 = .ok (.if_icmp .eq 10, 3) := by decide +kernel
theorem dX7_startsOne_46 : decode cX7_startsOne 46 = .ok (.iload_n 0, 1) := by decide +kernel
theorem dX7_startsOne_47 : decode cX7_startsOne 47 = .ok (.sipush 156, 3) := by decide +kernel
theorem dX7_startsOne_50 : decode cX7_startsOne 50 = .ok (.if_icmp .ne 7, 3) := by decide +kernel
theorem dX7_startsOne_53 : decode cX7_startsOne 53 = .ok (.iconst 1, 1) := by decide +kernel
theorem dX7_startsOne_54 : decode cX7_startsOne 54 = .ok (.goto 4, 3) := by decide +kernel
theorem dX7_startsOne_57 : decode cX7_startsOne 57 = .ok (.iconst 0, 1) := by decide +kernel
theorem dX7_startsOne_58 : decode cX7_startsOne 58 = .ok (.ireturn, 1) := by decide +kernel
abbrev M_X7_startsOne : mM := (cX7_startsOne, 1, RX7, some .boolean, false, 0, 0, 0, 0)
theorem gX7_startsOne : cS yX7_startsOne M_X7_startsOne 1 := ⟨(wsl_67 _ (List.mem_of_getElem? (i := 21) rfl)), (wsl_2 _ (List.mem_of_getElem? (i := 11) rfl)), (wsl_67 _ (List.mem_of_getElem? (i := 22) rfl)), by decide +kernel⟩
noncomputable def fX7_startsOne_b53 (h : hH) : Option (Int) :=
  some 1
noncomputable def fX7_startsOne (h : hH) (a0 : Int) : Option (Int) :=
  if a0 = 4 then
    fX7_startsOne_b53 h
  else
    if a0 = 151 then
      fX7_startsOne_b53 h
    else
      if a0 = 40 then
        fX7_startsOne_b53 h
      else
        if a0 = 152 then
          fX7_startsOne_b53 h
        else
          if a0 = 153 then
            fX7_startsOne_b53 h
          else
            if a0 = 154 then
              fX7_startsOne_b53 h
            else
              if a0 = 155 then
                fX7_startsOne_b53 h
              else
                if a0 = 156 then
                  fX7_startsOne_b53 h
                else
                  some 0
section M_X7_startsOne
variable {p : Program} {l : Launch} {e : Env} {R : Room} {s : State} {m : MethodId} {args : Array Value} {below : List Frame} {meth : Method} {c : Code} {D : va_G} {G : gG} {A : Nat → Prop} {H0 : Heap} {n0 : Int} {x : Option vV × hH} {h : hH}
set_option maxRecDepth 100000 in
set_option maxHeartbeats 4000000 in
theorem oX7_startsOne_b53 {K : Int → Prop} (k0 : ∀ r, K (r) → x = (some (2, r), h)) {r : Int} (hr : fX7_startsOne_b53 h  = some r) (hk : K r) : Wq p l e R s m args below meth c D G A H0 true n0 M_X7_startsOne x 0 0 53 [] [] h := by
  unfold fX7_startsOne_b53 at hr
  refine r_iconst dX7_startsOne_53 (by decide) ?_
  refine r_goto dX7_startsOne_54 (tgt := 58) (by decide) ?_
  refine r_scast 0 (v := (0, 1)) (w := (2, 1)) rfl cz (fun _ => Or.inr rfl) (st' := [(2, 1)]) rfl ?_
  obtain rfl := Option.some.inj hr
  exact r_ret dX7_startsOne_58 rfl (Or.inr ⟨rfl, rfl⟩) (k0 _ hk) ⟨rfl, rfl⟩
set_option maxRecDepth 100000 in
set_option maxHeartbeats 4000000 in
theorem oX7_startsOne_b0 {a0 : Int} {K : Int → Prop} (k0 : ∀ r, K (r) → x = (some (2, r), h)) {r : Int} (hr : fX7_startsOne h a0 = some r) (hk : K r) : Wq p l e R s m args below meth c D G A H0 true n0 M_X7_startsOne x 0 0 0 [(0, (0, a0))] [] h := by
  unfold fX7_startsOne at hr
  refine r_iload_n dX7_startsOne_0 rfl 0 rfl (Or.inl rfl) ?_
  refine r_iconst dX7_startsOne_1 (by decide) ?_
  refine r_icmp_eq dX7_startsOne_2 (tgt := 53) (by decide) (fun hc => ?_) (fun hc => ?_)
  · have hr := ifp hr hc
    refine r_sub [] (lv' := []) rfl ?_
    exact oX7_startsOne_b53 (K := K) (fun r z => k0 r z) hr hk
  · have hr := ifn hr hc
    refine r_iload_n dX7_startsOne_5 rfl 0 rfl (Or.inl rfl) ?_
    refine r_sipush dX7_startsOne_6 (by decide) (by decide) ?_
    refine r_icmp_eq dX7_startsOne_9 (tgt := 53) (by decide) (fun hc => ?_) (fun hc => ?_)
    · have hr := ifp hr hc
      refine r_sub [] (lv' := []) rfl ?_
      exact oX7_startsOne_b53 (K := K) (fun r z => k0 r z) hr hk
    · have hr := ifn hr hc
      refine r_iload_n dX7_startsOne_12 rfl 0 rfl (Or.inl rfl) ?_
      refine r_bipush dX7_startsOne_13 (by decide) (by decide) ?_
      refine r_icmp_eq dX7_startsOne_15 (tgt := 53) (by decide) (fun hc => ?_) (fun hc => ?_)
      · have hr := ifp hr hc
        refine r_sub [] (lv' := []) rfl ?_
        exact oX7_startsOne_b53 (K := K) (fun r z => k0 r z) hr hk
      · have hr := ifn hr hc
        refine r_iload_n dX7_startsOne_18 rfl 0 rfl (Or.inl rfl) ?_
        refine r_sipush dX7_startsOne_19 (by decide) (by decide) ?_
        refine r_icmp_eq dX7_startsOne_22 (tgt := 53) (by decide) (fun hc => ?_) (fun hc => ?_)
        · have hr := ifp hr hc
          refine r_sub [] (lv' := []) rfl ?_
          exact oX7_startsOne_b53 (K := K) (fun r z => k0 r z) hr hk
        · have hr := ifn hr hc
          refine r_iload_n dX7_startsOne_25 rfl 0 rfl (Or.inl rfl) ?_
          refine r_sipush dX7_startsOne_26 (by decide) (by decide) ?_
          refine r_icmp_eq dX7_startsOne_29 (tgt := 53) (by decide) (fun hc => ?_) (fun hc => ?_)
          · have hr := ifp hr hc
            refine r_sub [] (lv' := []) rfl ?_
            exact oX7_startsOne_b53 (K := K) (fun r z => k0 r z) hr hk
          · have hr := ifn hr hc
            refine r_iload_n dX7_startsOne_32 rfl 0 rfl (Or.inl rfl) ?_
            refine r_sipush dX7_startsOne_33 (by decide) (by decide) ?_
            refine r_icmp_eq dX7_startsOne_36 (tgt := 53) (by decide) (fun hc => ?_) (fun hc => ?_)
            · have hr := ifp hr hc
              refine r_sub [] (lv' := []) rfl ?_
              exact oX7_startsOne_b53 (K := K) (fun r z => k0 r z) hr hk
            · have hr := ifn hr hc
              refine r_iload_n dX7_startsOne_39 rfl 0 rfl (Or.inl rfl) ?_
              refine r_sipush dX7_startsOne_40 (by decide) (by decide) ?_
              refine r_icmp_eq dX7_startsOne_43 (tgt := 53) (by decide) (fun hc => ?_) (fun hc => ?_)
              · have hr := ifp hr hc
                refine r_sub [] (lv' := []) rfl ?_
                exact oX7_startsOne_b53 (K := K) (fun r z => k0 r z) hr hk
              · have hr := ifn hr hc
                refine r_iload_n dX7_startsOne_46 rfl 0 rfl (Or.inl rfl) ?_
                refine r_sipush dX7_startsOne_47 (by decide) (by decide) ?_
                refine r_icmp_ne dX7_startsOne_50 (tgt := 57) (by decide) (fun hc => ?_) (fun hc => ?_)
                · have hr := ifn hr hc
                  refine r_iconst dX7_startsOne_57 (by decide) ?_
                  refine r_scast 0 (v := (0, 0)) (w := (2, 0)) rfl cz (fun _ => Or.inl rfl) (st' := [(2, 0)]) rfl ?_
                  obtain rfl := Option.some.inj hr
                  exact r_ret dX7_startsOne_58 rfl (Or.inr ⟨rfl, rfl⟩) (k0 _ hk) ⟨rfl, rfl⟩
                · have hr := ifp hr hc
                  refine r_sub [] (lv' := []) rfl ?_
                  exact oX7_startsOne_b53 (K := K) (fun r z => k0 r z) hr hk
end M_X7_startsOne
theorem oX7_startsOne {l : Launch} {D : va_G} {G : gG} {h : hH} {a0 : Int} {r : Int} (hr : fX7_startsOne h a0 = some r) : Ctr l D G true yX7_startsOne M_X7_startsOne [(0, a0)] h (some (2, r), h) :=
  Ctr_of (by decide) rfl (fun z => by cases z) (nl rfl) (fun {p e R s m args below meth c A H0} => by
    exact oX7_startsOne_b0 (K := fun z9 => z9 = r) (fun r9 z => by rw [z]) hr rfl)
