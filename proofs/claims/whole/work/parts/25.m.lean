/-! X11_told -/
theorem dX11_told_0 : decode cX11_told 0 = .ok (.aload_n 0, 1) := by decide +kernel
theorem dX11_told_1 : decode cX11_told 1 = .ok (.getfield 87, 3) := by decide +kernel
theorem dX11_told_4 : decode cX11_told 4 = .ok (.iload_n 1, 1) := by decide +kernel
theorem dX11_told_5 : decode cX11_told 5 = .ok (.invokestatic 186, 3) := by decide +kernel
theorem dX11_told_8 : decode cX11_told 8 = .ok (.ireturn, 1) := by decide +kernel
abbrev M_X11_told : mM := (cX11_told, 2, RX11, some .int, false, 1, 21, 0, 0)
theorem gX11_told : cI yX11_told M_X11_told 1 := ⟨(wsl_66 _ (List.mem_of_getElem? (i := 0) rfl)), (wsl_66 _ (List.mem_of_getElem? (i := 1) rfl)), (wsl_1 _ (List.mem_of_getElem? (i := 2) rfl)), (wsl_66 _ (List.mem_of_getElem? (i := 2) rfl)), by decide +kernel⟩
noncomputable def fX11_told (h : hH) (a0 a1 : Int) : Option (Int) :=
  (fX11_at h (h a0 13) a1).bind fun r5 =>
  some r5
section M_X11_told
variable {p : Program} {l : Launch} {e : Env} {R : Room} {s : State} {m : MethodId} {args : Array Value} {below : List Frame} {meth : Method} {c : Code} {D : va_G} {G : gG} {A : Nat → Prop} {H0 : Heap} {n0 : Int} {x : Option vV × hH} {h : hH}
set_option maxRecDepth 100000 in
set_option maxHeartbeats 4000000 in
theorem oX11_told_b0 {a0 a1 : Int} {K : Int → Prop} (k0 : ∀ r, K (r) → x = (some (0, r), h)) {r : Int} (hr : fX11_told h a0 a1 = some r) (hk : K r) : Wq p l e R s m args below meth c D G A H0 true n0 M_X11_told x 0 0 0 [(0, (21, a0)), (1, (0, a1))] [] h := by
  unfold fX11_told at hr
  refine r_aload_n dX11_told_0 rfl 0 rfl (nl rfl) ?_
  refine r_get 11 13 (o := a0) (w := (50, h a0 13)) (T := TX11) (ref := "FollowingRefs") rfl (by decide) rfl (by decide) inlX11 (wsl_3 _ (List.mem_of_getElem? (i := 3) rfl)) rfl dX11_told_1 rfl ?_
  refine r_iload_n dX11_told_4 rfl 1 rfl (Or.inl rfl) ?_
  obtain ⟨r5, hg5, hr⟩ := bnd hr
  refine k_S (as := [(50, h a0 13), (0, a1)]) (rest := []) (X := (some (0, r5), h)) (oX11_at hg5) gX11_at rfl (wsl_48 _ (List.mem_of_getElem? (i := 0) rfl)) rfl dX11_told_5 rfl ?_
  obtain rfl := Option.some.inj hr
  exact r_ret dX11_told_8 rfl (Or.inl ⟨rfl, rfl⟩) (k0 _ hk) ⟨rfl, rfl⟩
end M_X11_told
theorem oX11_told {l : Launch} {D : va_G} {G : gG} {h : hH} {a0 a1 : Int} {r : Int} (hr : fX11_told h a0 a1 = some r) : Ctr l D G true yX11_told M_X11_told [(21, a0), (0, a1)] h (some (0, r), h) :=
  Ctr_of (by decide) rfl (fun z => by cases z) (nl rfl) (fun {p e R s m args below meth c A H0} => by
    exact oX11_told_b0 (K := fun z9 => z9 = r) (fun r9 z => by rw [z]) hr rfl)
/-! X11_said -/
theorem dX11_said_0 : decode cX11_said 0 = .ok (.aload_n 0, 1) := by decide +kernel
theorem dX11_said_1 : decode cX11_said 1 = .ok (.getfield 33, 3) := by decide +kernel
theorem dX11_said_4 : decode cX11_said 4 = .ok (.getfield 376, 3) := by decide +kernel
theorem dX11_said_7 : decode cX11_said 7 = .ok (.ifCond .eq 8, 3) := by decide +kernel
theorem dX11_said_10 : decode cX11_said 10 = .ok (.iload_n 1, 1) := by decide +kernel
theorem dX11_said_11 : decode cX11_said 11 = .ok (.iconst (-1), 1) := by decide +kernel
theorem dX11_said_12 : decode cX11_said 12 = .ok (.if_icmp .ge 5, 3) := by decide +kernel
theorem dX11_said_15 : decode cX11_said 15 = .ok (.iconst (-1), 1) := by decide +kernel
theorem dX11_said_16 : decode cX11_said 16 = .ok (.ireturn, 1) := by decide +kernel
theorem dX11_said_17 : decode cX11_said 17 = .ok (.aload_n 0, 1) := by decide +kernel
theorem dX11_said_18 : decode cX11_said 18 = .ok (.getfield 71, 3) := by decide +kernel
theorem dX11_said_21 : decode cX11_said 21 = .ok (.getfield 193, 3) := by decide +kernel
theorem dX11_said_24 : decode cX11_said 24 = .ok (.aload_n 0, 1) := by decide +kernel
theorem dX11_said_25 : decode cX11_said 25 = .ok (.getfield 19, 3) := by decide +kernel
theorem dX11_said_28 : decode cX11_said 28 = .ok (.aload_n 0, 1) := by decide +kernel
theorem dX11_said_29 : decode cX11_said 29 = .ok (.getfield 26, 3) := by decide +kernel
theorem dX11_said_32 : decode cX11_said 32 = .ok (.getfield 152, 3) := by decide +kernel
theorem dX11_said_35 : decode cX11_said 35 = .ok (.iconst 1, 1) := by decide +kernel
theorem dX11_said_36 : decode cX11_said 36 = .ok (.invokevirtual 210, 3) := by decide +kernel
theorem dX11_said_39 : decode cX11_said 39 = .ok (.pop, 1) := by decide +kernel
theorem dX11_said_40 : decode cX11_said 40 = .ok (.iconst 0, 1) := by decide +kernel
theorem dX11_said_41 : decode cX11_said 41 = .ok (.istore_n 2, 1) := by decide +kernel
theorem dX11_said_42 : decode cX11_said 42 = .ok (.iconst 0, 1) := by decide +kernel
theorem dX11_said_43 : decode cX11_said 43 = .ok (.istore_n 3, 1) := by decide +kernel
theorem dX11_said_44 : decode cX11_said 44 = .ok (.iload_n 3, 1) := by decide +kernel
theorem dX11_said_45 : decode cX11_said 45 = .ok (.aload_n 0, 1) := by decide +kernel
theorem dX11_said_46 : decode cX11_said 46 = .ok (.getfield 26, 3) := by decide +kernel
theorem dX11_said_49 : decode cX11_said 49 = .ok (.getfield 152, 3) := by decide +kernel
theorem dX11_said_52 : decode cX11_said 52 = .ok (.getfield 219, 3) := by decide +kernel
theorem dX11_said_55 : decode cX11_said 55 = .ok (.if_icmp .ge 58, 3) := by decide +kernel
theorem dX11_said_58 : decode cX11_said 58 = .ok (.aload_n 0, 1) := by decide +kernel
theorem dX11_said_59 : decode cX11_said 59 = .ok (.getfield 33, 3) := by decide +kernel
theorem dX11_said_62 : decode cX11_said 62 = .ok (.aload_n 0, 1) := by decide +kernel
theorem dX11_said_63 : decode cX11_said 63 = .ok (.getfield 19, 3) := by decide +kernel
theorem dX11_said_66 : decode cX11_said 66 = .ok (.aload_n 0, 1) := by decide +kernel
theorem dX11_said_67 : decode cX11_said 67 = .ok (.getfield 26, 3) := by decide +kernel
theorem dX11_said_70 : decode cX11_said 70 = .ok (.getfield 152, 3) := by decide +kernel
theorem dX11_said_73 : decode cX11_said 73 = .ok (.iload_n 3, 1) := by decide +kernel
theorem dX11_said_74 : decode cX11_said 74 = .ok (.aload_n 0, 1) := by decide +kernel
theorem dX11_said_75 : decode cX11_said 75 = .ok (.getfield 71, 3) := by decide +kernel
theorem dX11_said_78 : decode cX11_said 78 = .ok (.getfield 193, 3) := by decide +kernel
theorem dX11_said_81 : decode cX11_said 81 = .ok (.invokevirtual 379, 3) := by decide +kernel
theorem dX11_said_84 : decode cX11_said 84 = .ok (.ifCond .eq 23, 3) := by decide +kernel
theorem dX11_said_87 : decode cX11_said 87 = .ok (.iload_n 2, 1) := by decide +kernel
theorem dX11_said_88 : decode cX11_said 88 = .ok (.iload_n 1, 1) := by decide +kernel
theorem dX11_said_89 : decode cX11_said 89 = .ok (.if_icmp .ne 15, 3) := by decide +kernel
theorem dX11_said_92 : decode cX11_said 92 = .ok (.aload_n 0, 1) := by decide +kernel
theorem dX11_said_93 : decode cX11_said 93 = .ok (.getfield 26, 3) := by decide +kernel
theorem dX11_said_96 : decode cX11_said 96 = .ok (.getfield 152, 3) := by decide +kernel
theorem dX11_said_99 : decode cX11_said 99 = .ok (.iload_n 3, 1) := by decide +kernel
theorem dX11_said_100 : decode cX11_said 100 = .ok (.invokevirtual 257, 3) := by decide +kernel
theorem dX11_said_103 : decode cX11_said 103 = .ok (.ireturn, 1) := by decide +kernel
theorem dX11_said_104 : decode cX11_said 104 = .ok (.iinc 2 1, 3) := by decide +kernel
theorem dX11_said_107 : decode cX11_said 107 = .ok (.iinc 3 1, 3) := by decide +kernel
theorem dX11_said_110 : decode cX11_said 110 = .ok (.goto (-66), 3) := by decide +kernel
theorem dX11_said_113 : decode cX11_said 113 = .ok (.iload_n 1, 1) := by decide +kernel
theorem dX11_said_114 : decode cX11_said 114 = .ok (.iconst (-1), 1) := by decide +kernel
theorem dX11_said_115 : decode cX11_said 115 = .ok (.if_icmp .ne 7, 3) := by decide +kernel
theorem dX11_said_118 : decode cX11_said 118 = .ok (.iload_n 2, 1) := by decide +kernel
theorem dX11_said_119 : decode cX11_said 119 = .ok (.goto 4, 3) := by decide +kernel
theorem dX11_said_122 : decode cX11_said 122 = .ok (.iconst (-1), 1) := by decide +kernel
theorem dX11_said_123 : decode cX11_said 123 = .ok (.ireturn, 1) := by decide +kernel
abbrev M_X11_said : mM := (cX11_said, 4, RX11, some .int, false, 6, 156, 0, 0)
theorem gX11_said : cI yX11_said M_X11_said 1 := ⟨(wsl_70 _ (List.mem_of_getElem? (i := 4) rfl)), (wsl_70 _ (List.mem_of_getElem? (i := 5) rfl)), (wsl_1 _ (List.mem_of_getElem? (i := 2) rfl)), (wsl_70 _ (List.mem_of_getElem? (i := 6) rfl)), by decide +kernel⟩
noncomputable def fX11_said_s44 (h : hH) (a0 a1 : Int) : Int × Int → Option ((Int × Int) ⊕ (Int × hH)) := fun (l2, l3) =>
  if l3 < h (h (h a0 2) 0) 0 then
    (fX6_holds h (h a0 3) (h a0 1) (h (h a0 2) 0) l3 (h (h a0 8) 3)).bind fun r81 =>
    if r81 = 0 then
      some (.inl (l2, w32 (l3 + 1)))
    else
      if l2 = a1 then
        (fX3_numberAt h (h (h a0 2) 0) l3).bind fun r100 =>
        some (.inr ((r100, h)))
      else
        some (.inl (w32 (l2 + 1), w32 (l3 + 1)))
  else
    if a1 = -1 then
      some (.inr ((l2, h)))
    else
      some (.inr ((-1, h)))
noncomputable def fX11_said (h : hH) (a0 a1 : Int) : Option (Int × hH) :=
  if h (h a0 3) 0 = 0 then
    some (-1, h)
  else
    if a1 < -1 then
      some (-1, h)
    else
      (fX10_scan h (h (h a0 8) 3) (h a0 1) (h (h a0 2) 0) 1).bind fun q36 =>
      lpO (fX11_said_s44 q36.2 a0 a1) (0, 0)
section M_X11_said
variable {p : Program} {l : Launch} {e : Env} {R : Room} {s : State} {m : MethodId} {args : Array Value} {below : List Frame} {meth : Method} {c : Code} {D : va_G} {G : gG} {A : Nat → Prop} {H0 : Heap} {n0 : Int} {x : Option vV × hH} {h : hH}
set_option maxRecDepth 100000 in
set_option maxHeartbeats 4000000 in
theorem oX11_said_s44 {a0 a1 l2 l3 : Int} {K : (Int × Int) ⊕ (Int × hH) → Prop} (k0 : ∀ r, K (.inr (r)) → x = (some (0, r.1), r.2)) (k1 : ∀ (l2 : Int) (l3 : Int), K (.inl (l2, l3)) → Wq p l e R s m args below meth c D G A H0 true n0 M_X11_said x 0 0 44 [(0, (21, a0)), (1, (0, a1)), (2, (0, l2)), (3, (0, l3))] [] h) {r : (Int × Int) ⊕ (Int × hH)} (hr : fX11_said_s44 h a0 a1 (l2, l3) = some r) (hk : K r) : Wq p l e R s m args below meth c D G A H0 true n0 M_X11_said x 0 0 44 [(0, (21, a0)), (1, (0, a1)), (2, (0, l2)), (3, (0, l3))] [] h := by
  unfold fX11_said_s44 at hr
  refine r_iload_n dX11_said_44 rfl 3 rfl (Or.inl rfl) ?_
  refine r_aload_n dX11_said_45 rfl 0 rfl (nl rfl) ?_
  refine r_get 11 2 (o := a0) (w := (18, h a0 2)) (T := TX11) (ref := "FollowingRefs") rfl (by decide) rfl (by decide) inlX11 (wsl_2 _ (List.mem_of_getElem? (i := 0) rfl)) rfl dX11_said_46 rfl ?_
  refine r_get 8 0 (o := h a0 2) (w := (13, h (h a0 2) 0)) (T := TX8) (ref := "FollowingRefs$State") rfl (by decide) rfl (by decide) inlX8 (wsl_29 _ (List.mem_of_getElem? (i := 9) rfl)) rfl dX11_said_49 rfl ?_
  refine r_get 3 0 (o := h (h a0 2) 0) (w := (0, h (h (h a0 2) 0) 0)) (T := TX3) (ref := "FollowingRefs$Rows") rfl (by decide) rfl (by decide) inlX3 (wsl_52 _ (List.mem_of_getElem? (i := 4) rfl)) rfl dX11_said_52 rfl ?_
  refine r_icmp_ge dX11_said_55 (tgt := 113) (by decide) (fun hc => ?_) (fun hc => ?_)
  · have hr := ifn hr hc
    refine r_iload_n dX11_said_113 rfl 1 rfl (Or.inl rfl) ?_
    refine r_iconst dX11_said_114 (by decide) ?_
    refine r_icmp_ne dX11_said_115 (tgt := 122) (by decide) (fun hc => ?_) (fun hc => ?_)
    · have hr := ifn hr hc
      refine r_iconst dX11_said_122 (by decide) ?_
      obtain rfl := Option.some.inj hr
      exact r_ret dX11_said_123 rfl (Or.inl ⟨rfl, rfl⟩) (k0 _ hk) ⟨rfl, rfl⟩
    · have hr := ifp hr hc
      refine r_iload_n dX11_said_118 rfl 2 rfl (Or.inl rfl) ?_
      refine r_goto dX11_said_119 (tgt := 123) (by decide) ?_
      obtain rfl := Option.some.inj hr
      exact r_ret dX11_said_123 rfl (Or.inl ⟨rfl, rfl⟩) (k0 _ hk) ⟨rfl, rfl⟩
  · have hr := ifp hr hc
    refine r_aload_n dX11_said_58 rfl 0 rfl (nl rfl) ?_
    refine r_get 11 3 (o := a0) (w := (16, h a0 3)) (T := TX11) (ref := "FollowingRefs") rfl (by decide) rfl (by decide) inlX11 (wsl_2 _ (List.mem_of_getElem? (i := 4) rfl)) rfl dX11_said_59 rfl ?_
    refine r_aload_n dX11_said_62 rfl 0 rfl (nl rfl) ?_
    refine r_get 11 1 (o := a0) (w := (14, h a0 1)) (T := TX11) (ref := "FollowingRefs") rfl (by decide) rfl (by decide) inlX11 (wsl_1 _ (List.mem_of_getElem? (i := 20) rfl)) rfl dX11_said_63 rfl ?_
    refine r_aload_n dX11_said_66 rfl 0 rfl (nl rfl) ?_
    refine r_get 11 2 (o := a0) (w := (18, h a0 2)) (T := TX11) (ref := "FollowingRefs") rfl (by decide) rfl (by decide) inlX11 (wsl_2 _ (List.mem_of_getElem? (i := 0) rfl)) rfl dX11_said_67 rfl ?_
    refine r_get 8 0 (o := h a0 2) (w := (13, h (h a0 2) 0)) (T := TX8) (ref := "FollowingRefs$State") rfl (by decide) rfl (by decide) inlX8 (wsl_29 _ (List.mem_of_getElem? (i := 9) rfl)) rfl dX11_said_70 rfl ?_
    refine r_iload_n dX11_said_73 rfl 3 rfl (Or.inl rfl) ?_
    refine r_aload_n dX11_said_74 rfl 0 rfl (nl rfl) ?_
    refine r_get 11 8 (o := a0) (w := (11, h a0 8)) (T := TX11) (ref := "FollowingRefs") rfl (by decide) rfl (by decide) inlX11 (wsl_2 _ (List.mem_of_getElem? (i := 21) rfl)) rfl dX11_said_75 rfl ?_
    refine r_get 1 3 (o := h a0 8) (w := (20, h (h a0 8) 3)) (T := TX1) (ref := "FollowingRefs$Judge") rfl (by decide) rfl (by decide) inlX1 (wsl_48 _ (List.mem_of_getElem? (i := 18) rfl)) rfl dX11_said_78 rfl ?_
    obtain ⟨r81, hg81, hr⟩ := bnd hr
    refine k_V (ci := 6) (o := h a0 3) (T := TX6) (as := [(14, h a0 1), (13, h (h a0 2) 0), (0, l3), (20, h (h a0 8) 3)]) (rest := []) (X := (some (2, r81), h)) (oX6_holds hg81) gX6_holds rfl (by decide) rfl (wsl_70 _ (List.mem_of_getElem? (i := 8) rfl)) rfl dX11_said_81 rfl ?_
    refine r_scast 0 (v := (2, r81)) (w := (0, r81)) rfl zc hTz (st' := [(0, r81)]) rfl ?_
    refine r_if_eq dX11_said_84 (tgt := 107) (by decide) (fun hc => ?_) (fun hc => ?_)
    · have hr := ifp hr hc
      refine r_iinc (k := 3) (v := l3) dX11_said_107 rfl (by decide) (lv' := [(3, (0, w32 (l3 + 1))), (0, (21, a0)), (1, (0, a1)), (2, (0, l2))]) rfl ?_
      refine r_goto dX11_said_110 (tgt := 44) (by decide) ?_
      refine r_sub [1, 2, 3, 0] (lv' := [(0, (21, a0)), (1, (0, a1)), (2, (0, l2)), (3, (0, w32 (l3 + 1)))]) rfl ?_
      obtain rfl := Option.some.inj hr
      exact k1 _ _ hk
    · have hr := ifn hr hc
      refine r_iload_n dX11_said_87 rfl 2 rfl (Or.inl rfl) ?_
      refine r_iload_n dX11_said_88 rfl 1 rfl (Or.inl rfl) ?_
      refine r_icmp_ne dX11_said_89 (tgt := 104) (by decide) (fun hc => ?_) (fun hc => ?_)
      · have hr := ifn hr hc
        refine r_iinc (k := 2) (v := l2) dX11_said_104 rfl (by decide) (lv' := [(2, (0, w32 (l2 + 1))), (0, (21, a0)), (1, (0, a1)), (3, (0, l3))]) rfl ?_
        refine r_iinc (k := 3) (v := l3) dX11_said_107 rfl (by decide) (lv' := [(3, (0, w32 (l3 + 1))), (2, (0, w32 (l2 + 1))), (0, (21, a0)), (1, (0, a1))]) rfl ?_
        refine r_goto dX11_said_110 (tgt := 44) (by decide) ?_
        refine r_sub [2, 3, 1, 0] (lv' := [(0, (21, a0)), (1, (0, a1)), (2, (0, w32 (l2 + 1))), (3, (0, w32 (l3 + 1)))]) rfl ?_
        obtain rfl := Option.some.inj hr
        exact k1 _ _ hk
      · have hr := ifp hr hc
        refine r_aload_n dX11_said_92 rfl 0 rfl (nl rfl) ?_
        refine r_get 11 2 (o := a0) (w := (18, h a0 2)) (T := TX11) (ref := "FollowingRefs") rfl (by decide) rfl (by decide) inlX11 (wsl_2 _ (List.mem_of_getElem? (i := 0) rfl)) rfl dX11_said_93 rfl ?_
        refine r_get 8 0 (o := h a0 2) (w := (13, h (h a0 2) 0)) (T := TX8) (ref := "FollowingRefs$State") rfl (by decide) rfl (by decide) inlX8 (wsl_29 _ (List.mem_of_getElem? (i := 9) rfl)) rfl dX11_said_96 rfl ?_
        refine r_iload_n dX11_said_99 rfl 3 rfl (Or.inl rfl) ?_
        obtain ⟨r100, hg100, hr⟩ := bnd hr
        refine k_V (ci := 3) (o := h (h a0 2) 0) (T := TX3) (as := [(0, l3)]) (rest := []) (X := (some (0, r100), h)) (oX3_numberAt hg100) gX3_numberAt rfl (by decide) rfl (wsl_55 _ (List.mem_of_getElem? (i := 23) rfl)) rfl dX11_said_100 rfl ?_
        obtain rfl := Option.some.inj hr
        exact r_ret dX11_said_103 rfl (Or.inl ⟨rfl, rfl⟩) (k0 _ hk) ⟨rfl, rfl⟩
set_option maxRecDepth 100000 in
set_option maxHeartbeats 4000000 in
theorem oX11_said_b0 {a0 a1 : Int} {K : Int × hH → Prop} (k0 : ∀ r, K (r) → x = (some (0, r.1), r.2)) {r : Int × hH} (hr : fX11_said h a0 a1 = some r) (hk : K r) : Wq p l e R s m args below meth c D G A H0 true n0 M_X11_said x 0 0 0 [(0, (21, a0)), (1, (0, a1))] [] h := by
  unfold fX11_said at hr
  refine r_aload_n dX11_said_0 rfl 0 rfl (nl rfl) ?_
  refine r_get 11 3 (o := a0) (w := (16, h a0 3)) (T := TX11) (ref := "FollowingRefs") rfl (by decide) rfl (by decide) inlX11 (wsl_2 _ (List.mem_of_getElem? (i := 4) rfl)) rfl dX11_said_1 rfl ?_
  refine r_get 6 0 (o := h a0 3) (w := (2, h (h a0 3) 0)) (T := TX6) (ref := "FollowingRefs$Sentence") rfl (by decide) rfl (by decide) inlX6 (wsl_70 _ (List.mem_of_getElem? (i := 7) rfl)) rfl dX11_said_4 rfl ?_
  refine r_scast 0 (v := (2, h (h a0 3) 0)) (w := (0, h (h a0 3) 0)) rfl zc hTz (st' := [(0, h (h a0 3) 0)]) rfl ?_
  refine r_if_eq dX11_said_7 (tgt := 15) (by decide) (fun hc => ?_) (fun hc => ?_)
  · have hr := ifp hr hc
    refine r_iconst dX11_said_15 (by decide) ?_
    obtain rfl := Option.some.inj hr
    exact r_ret dX11_said_16 rfl (Or.inl ⟨rfl, rfl⟩) (k0 _ hk) ⟨rfl, rfl⟩
  · have hr := ifn hr hc
    refine r_iload_n dX11_said_10 rfl 1 rfl (Or.inl rfl) ?_
    refine r_iconst dX11_said_11 (by decide) ?_
    refine r_icmp_ge dX11_said_12 (tgt := 17) (by decide) (fun hc => ?_) (fun hc => ?_)
    · have hr := ifn hr hc
      refine r_aload_n dX11_said_17 rfl 0 rfl (nl rfl) ?_
      refine r_get 11 8 (o := a0) (w := (11, h a0 8)) (T := TX11) (ref := "FollowingRefs") rfl (by decide) rfl (by decide) inlX11 (wsl_2 _ (List.mem_of_getElem? (i := 21) rfl)) rfl dX11_said_18 rfl ?_
      refine r_get 1 3 (o := h a0 8) (w := (20, h (h a0 8) 3)) (T := TX1) (ref := "FollowingRefs$Judge") rfl (by decide) rfl (by decide) inlX1 (wsl_48 _ (List.mem_of_getElem? (i := 18) rfl)) rfl dX11_said_21 rfl ?_
      refine r_aload_n dX11_said_24 rfl 0 rfl (nl rfl) ?_
      refine r_get 11 1 (o := a0) (w := (14, h a0 1)) (T := TX11) (ref := "FollowingRefs") rfl (by decide) rfl (by decide) inlX11 (wsl_1 _ (List.mem_of_getElem? (i := 20) rfl)) rfl dX11_said_25 rfl ?_
      refine r_aload_n dX11_said_28 rfl 0 rfl (nl rfl) ?_
      refine r_get 11 2 (o := a0) (w := (18, h a0 2)) (T := TX11) (ref := "FollowingRefs") rfl (by decide) rfl (by decide) inlX11 (wsl_2 _ (List.mem_of_getElem? (i := 0) rfl)) rfl dX11_said_29 rfl ?_
      refine r_get 8 0 (o := h a0 2) (w := (13, h (h a0 2) 0)) (T := TX8) (ref := "FollowingRefs$State") rfl (by decide) rfl (by decide) inlX8 (wsl_29 _ (List.mem_of_getElem? (i := 9) rfl)) rfl dX11_said_32 rfl ?_
      refine r_iconst dX11_said_35 (by decide) ?_
      refine r_scast 0 (v := (0, 1)) (w := (2, 1)) rfl cz (fun _ => Or.inr rfl) (st' := [(2, 1), (13, h (h a0 2) 0), (14, h a0 1), (20, h (h a0 8) 3)]) rfl ?_
      obtain ⟨q36, hg36, hr⟩ := bnd hr
      refine k_V (ci := 10) (o := h (h a0 8) 3) (T := TX10) (as := [(14, h a0 1), (13, h (h a0 2) 0), (2, 1)]) (rest := []) (X := (some (0, q36.1), q36.2)) (oX10_scan hg36) gX10_scan rfl (by decide) rfl (wsl_50 _ (List.mem_of_getElem? (i := 6) rfl)) rfl dX11_said_36 rfl ?_
      refine r_pop dX11_said_39 (Nat.ne_of_beq_eq_false rfl) ?_
      refine r_iconst dX11_said_40 (by decide) ?_
      refine r_istore_n dX11_said_41 rfl (Or.inl rfl) (by decide) (lv' := [(2, (0, 0)), (0, (21, a0)), (1, (0, a1))]) rfl ?_
      refine r_iconst dX11_said_42 (by decide) ?_
      refine r_istore_n dX11_said_43 rfl (Or.inl rfl) (by decide) (lv' := [(3, (0, 0)), (2, (0, 0)), (0, (21, a0)), (1, (0, a1))]) rfl ?_
      refine r_sub [2, 3, 1, 0] (lv' := [(0, (21, a0)), (1, (0, a1)), (2, (0, 0)), (3, (0, 0))]) rfl ?_
      exact lp_ok (w := fun (q : Int × Int) => Wq p l e R s m args below meth c D G A H0 true n0 M_X11_said x 0 0 44 [(0, (21, a0)), (1, (0, a1)), (2, (0, q.1)), (3, (0, q.2))] [] (q36.2)) (K := K) (fun ⟨q0, q1⟩ r h1 h2 => oX11_said_s44 (K := Sum.elim (fun (q : Int × Int) => Wq p l e R s m args below meth c D G A H0 true n0 M_X11_said x 0 0 44 [(0, (21, a0)), (1, (0, a1)), (2, (0, q.1)), (3, (0, q.2))] [] (q36.2)) (K)) (fun r z => k0 r z) (fun _ _ z => z) h1 h2) hr hk
    · have hr := ifp hr hc
      refine r_iconst dX11_said_15 (by decide) ?_
      obtain rfl := Option.some.inj hr
      exact r_ret dX11_said_16 rfl (Or.inl ⟨rfl, rfl⟩) (k0 _ hk) ⟨rfl, rfl⟩
end M_X11_said
theorem oX11_said {l : Launch} {D : va_G} {G : gG} {h : hH} {a0 a1 : Int} {r : Int × hH} (hr : fX11_said h a0 a1 = some r) : Ctr l D G true yX11_said M_X11_said [(21, a0), (0, a1)] h (some (0, r.1), r.2) :=
  Ctr_of (by decide) rfl (fun z => by cases z) (nl rfl) (fun {p e R s m args below meth c A H0} => by
    exact oX11_said_b0 (K := fun z9 => z9 = r) (fun r9 z => by rw [z]) hr rfl)
/-! X11_imageIn -/
theorem dX11_imageIn_0 : decode cX11_imageIn 0 = .ok (.iload_n 1, 1) := by decide +kernel
theorem dX11_imageIn_1 : decode cX11_imageIn 1 = .ok (.ifCond .lt 21, 3) := by decide +kernel
theorem dX11_imageIn_4 : decode cX11_imageIn 4 = .ok (.iload_n 1, 1) := by decide +kernel
theorem dX11_imageIn_5 : decode cX11_imageIn 5 = .ok (.aload_n 0, 1) := by decide +kernel
theorem dX11_imageIn_6 : decode cX11_imageIn 6 = .ok (.getfield 83, 3) := by decide +kernel
theorem dX11_imageIn_9 : decode cX11_imageIn 9 = .ok (.arraylength, 1) := by decide +kernel
theorem dX11_imageIn_10 : decode cX11_imageIn 10 = .ok (.if_icmp .ge 12, 3) := by decide +kernel
theorem dX11_imageIn_13 : decode cX11_imageIn 13 = .ok (.aload_n 0, 1) := by decide +kernel
theorem dX11_imageIn_14 : decode cX11_imageIn 14 = .ok (.getfield 83, 3) := by decide +kernel
theorem dX11_imageIn_17 : decode cX11_imageIn 17 = .ok (.iload_n 1, 1) := by decide +kernel
theorem dX11_imageIn_18 : decode cX11_imageIn 18 = .ok (.aaload, 1) := by decide +kernel
theorem dX11_imageIn_19 : decode cX11_imageIn 19 = .ok (.goto 4, 3) := by decide +kernel
theorem dX11_imageIn_22 : decode cX11_imageIn 22 = .ok (.aconst_null, 1) := by decide +kernel
theorem dX11_imageIn_23 : decode cX11_imageIn 23 = .ok (.areturn, 1) := by decide +kernel
abbrev M_X11_imageIn : mM := (cX11_imageIn, 2, RX11, some (.object "FollowingRefs$Image"), false, 0, 0, 0, 0)
theorem gX11_imageIn : cI yX11_imageIn M_X11_imageIn 1 := ⟨(wsl_72 _ (List.mem_of_getElem? (i := 12) rfl)), (wsl_72 _ (List.mem_of_getElem? (i := 13) rfl)), (wsl_1 _ (List.mem_of_getElem? (i := 2) rfl)), (wsl_72 _ (List.mem_of_getElem? (i := 14) rfl)), by decide +kernel⟩
noncomputable def fX11_imageIn_b22 (h : hH) : Option (Int) :=
  some (-1)
noncomputable def fX11_imageIn (h : hH) (a0 a1 : Int) : Option (Int) :=
  if a1 < 0 then
    fX11_imageIn_b22 h
  else
    if a1 < h (h a0 12) (-1) then
      (aget h (h a0 12) a1).bind fun v18 =>
      some v18
    else
      fX11_imageIn_b22 h
section M_X11_imageIn
variable {p : Program} {l : Launch} {e : Env} {R : Room} {s : State} {m : MethodId} {args : Array Value} {below : List Frame} {meth : Method} {c : Code} {D : va_G} {G : gG} {A : Nat → Prop} {H0 : Heap} {n0 : Int} {x : Option vV × hH} {h : hH}
set_option maxRecDepth 100000 in
set_option maxHeartbeats 4000000 in
theorem oX11_imageIn_b22 {K : Int → Prop} (k0 : ∀ r, K (r) → x = (some (110, r), h)) {r : Int} (hr : fX11_imageIn_b22 h  = some r) (hk : K r) : Wq p l e R s m args below meth c D G A H0 true n0 M_X11_imageIn x 0 0 22 [] [] h := by
  unfold fX11_imageIn_b22 at hr
  refine r_null (t := 100) (by decide) dX11_imageIn_22 ?_
  skip
  obtain rfl := Option.some.inj hr
  refine r_scast 0 (v := (100, -1)) (w := (110, -1)) rfl (fun _ => rfl) (fun _ => Or.inl ⟨by decide, rfl⟩) (st' := [(110, -1)]) rfl ?_
  exact r_aret (nl rfl) dX11_imageIn_23 rfl (Or.inl ⟨_, rfl⟩) (k0 _ hk) ⟨rfl, rfl⟩
set_option maxRecDepth 100000 in
set_option maxHeartbeats 4000000 in
theorem oX11_imageIn_b0 {a0 a1 : Int} {K : Int → Prop} (k0 : ∀ r, K (r) → x = (some (110, r), h)) {r : Int} (hr : fX11_imageIn h a0 a1 = some r) (hk : K r) : Wq p l e R s m args below meth c D G A H0 true n0 M_X11_imageIn x 0 0 0 [(0, (21, a0)), (1, (0, a1))] [] h := by
  unfold fX11_imageIn at hr
  refine r_iload_n dX11_imageIn_0 rfl 1 rfl (Or.inl rfl) ?_
  refine r_if_lt dX11_imageIn_1 (tgt := 22) (by decide) (fun hc => ?_) (fun hc => ?_)
  · have hr := ifp hr hc
    refine r_sub [] (lv' := []) rfl ?_
    exact oX11_imageIn_b22 (K := K) (fun r z => k0 r z) hr hk
  · have hr := ifn hr hc
    refine r_iload_n dX11_imageIn_4 rfl 1 rfl (Or.inl rfl) ?_
    refine r_aload_n dX11_imageIn_5 rfl 0 rfl (nl rfl) ?_
    refine r_get 11 12 (o := a0) (w := (55, h a0 12)) (T := TX11) (ref := "FollowingRefs") rfl (by decide) rfl (by decide) inlX11 (wsl_3 _ (List.mem_of_getElem? (i := 1) rfl)) rfl dX11_imageIn_6 rfl ?_
    refine r_alen (t := 55) (by decide) (by decide) dX11_imageIn_9 ?_
    refine r_icmp_ge dX11_imageIn_10 (tgt := 22) (by decide) (fun hc => ?_) (fun hc => ?_)
    · have hr := ifn hr hc
      refine r_sub [] (lv' := []) rfl ?_
      exact oX11_imageIn_b22 (K := K) (fun r z => k0 r z) hr hk
    · have hr := ifp hr hc
      refine r_aload_n dX11_imageIn_13 rfl 0 rfl (nl rfl) ?_
      refine r_get 11 12 (o := a0) (w := (55, h a0 12)) (T := TX11) (ref := "FollowingRefs") rfl (by decide) rfl (by decide) inlX11 (wsl_3 _ (List.mem_of_getElem? (i := 1) rfl)) rfl dX11_imageIn_14 rfl ?_
      refine r_iload_n dX11_imageIn_17 rfl 1 rfl (Or.inl rfl) ?_
      obtain ⟨v18, hg18, hr⟩ := bnd hr
      refine r_mald dX11_imageIn_18 hg18 ?_
      refine r_goto dX11_imageIn_19 (tgt := 23) (by decide) ?_
      obtain rfl := Option.some.inj hr
      exact r_aret (nl rfl) dX11_imageIn_23 rfl (Or.inl ⟨_, rfl⟩) (k0 _ hk) ⟨rfl, rfl⟩
end M_X11_imageIn
theorem oX11_imageIn {l : Launch} {D : va_G} {G : gG} {h : hH} {a0 a1 : Int} {r : Int} (hr : fX11_imageIn h a0 a1 = some r) : Ctr l D G true yX11_imageIn M_X11_imageIn [(21, a0), (0, a1)] h (some (110, r), h) :=
  Ctr_of (by decide) rfl (fun z => by cases z) (nl rfl) (fun {p e R s m args below meth c A H0} => by
    exact oX11_imageIn_b0 (K := fun z9 => z9 = r) (fun r9 z => by rw [z]) hr rfl)
/-! X11_image -/
theorem dX11_image_0 : decode cX11_image 0 = .ok (.aload_n 0, 1) := by decide +kernel
theorem dX11_image_1 : decode cX11_image 1 = .ok (.iload_n 1, 1) := by decide +kernel
theorem dX11_image_2 : decode cX11_image 2 = .ok (.invokevirtual 383, 3) := by decide +kernel
theorem dX11_image_5 : decode cX11_image 5 = .ok (.astore_n 2, 1) := by decide +kernel
theorem dX11_image_6 : decode cX11_image 6 = .ok (.aload_n 2, 1) := by decide +kernel
theorem dX11_image_7 : decode cX11_image 7 = .ok (.ifnonnull 5, 3) := by decide +kernel
theorem dX11_image_10 : decode cX11_image 10 = .ok (.iconst 0, 1) := by decide +kernel
theorem dX11_image_11 : decode cX11_image 11 = .ok (.ireturn, 1) := by decide +kernel
theorem dX11_image_12 : decode cX11_image 12 = .ok (.aload_n 2, 1) := by decide +kernel
theorem dX11_image_13 : decode cX11_image 13 = .ok (.iconst 1, 1) := by decide +kernel
theorem dX11_image_14 : decode cX11_image 14 = .ok (.putfield 387, 3) := by decide +kernel
theorem dX11_image_17 : decode cX11_image 17 = .ok (.aload_n 2, 1) := by decide +kernel
theorem dX11_image_18 : decode cX11_image 18 = .ok (.getfield 390, 3) := by decide +kernel
theorem dX11_image_21 : decode cX11_image 21 = .ok (.aload_n 0, 1) := by decide +kernel
theorem dX11_image_22 : decode cX11_image 22 = .ok (.getfield 19, 3) := by decide +kernel
theorem dX11_image_25 : decode cX11_image 25 = .ok (.invokevirtual 120, 3) := by decide +kernel
theorem dX11_image_28 : decode cX11_image 28 = .ok (.aload_n 2, 1) := by decide +kernel
theorem dX11_image_29 : decode cX11_image 29 = .ok (.getfield 391, 3) := by decide +kernel
theorem dX11_image_32 : decode cX11_image 32 = .ok (.aload_n 0, 1) := by decide +kernel
theorem dX11_image_33 : decode cX11_image 33 = .ok (.getfield 26, 3) := by decide +kernel
theorem dX11_image_36 : decode cX11_image 36 = .ok (.invokevirtual 217, 3) := by decide +kernel
theorem dX11_image_39 : decode cX11_image 39 = .ok (.aload_n 2, 1) := by decide +kernel
theorem dX11_image_40 : decode cX11_image 40 = .ok (.getfield 392, 3) := by decide +kernel
theorem dX11_image_43 : decode cX11_image 43 = .ok (.aload_n 0, 1) := by decide +kernel
theorem dX11_image_44 : decode cX11_image 44 = .ok (.getfield 33, 3) := by decide +kernel
theorem dX11_image_47 : decode cX11_image 47 = .ok (.invokevirtual 370, 3) := by decide +kernel
theorem dX11_image_50 : decode cX11_image 50 = .ok (.iconst 1, 1) := by decide +kernel
theorem dX11_image_51 : decode cX11_image 51 = .ok (.ireturn, 1) := by decide +kernel
abbrev M_X11_image : mM := (cX11_image, 3, RX11, some .boolean, false, 4, 147, 0, 0)
theorem gX11_image : cI yX11_image M_X11_image 1 := ⟨(wsl_72 _ (List.mem_of_getElem? (i := 4) rfl)), (wsl_72 _ (List.mem_of_getElem? (i := 5) rfl)), (wsl_1 _ (List.mem_of_getElem? (i := 2) rfl)), (wsl_72 _ (List.mem_of_getElem? (i := 6) rfl)), by decide +kernel⟩
noncomputable def fX11_image (h : hH) (a0 a1 : Int) : Option (Int × hH) :=
  (fX11_imageIn h a0 a1).bind fun r2 =>
  if r2 < 0 then
    some (0, h)
  else
    (pput h r2 0 1).bind fun h14 =>
    (fX4_copyFrom h14 (h14 r2 1) (h14 a0 1)).bind fun h25 =>
    (fX8_copyFrom h25 (h25 r2 2) (h25 a0 2)).bind fun h36 =>
    (fX6_copyFrom h36 (h36 r2 3) (h36 a0 3)).bind fun h47 =>
    some (1, h47)
section M_X11_image
variable {p : Program} {l : Launch} {e : Env} {R : Room} {s : State} {m : MethodId} {args : Array Value} {below : List Frame} {meth : Method} {c : Code} {D : va_G} {G : gG} {A : Nat → Prop} {H0 : Heap} {n0 : Int} {x : Option vV × hH} {h : hH}
set_option maxRecDepth 100000 in
set_option maxHeartbeats 4000000 in
theorem oX11_image_b0 {a0 a1 : Int} {K : Int × hH → Prop} (k0 : ∀ r, K (r) → x = (some (2, r.1), r.2)) {r : Int × hH} (hr : fX11_image h a0 a1 = some r) (hk : K r) : Wq p l e R s m args below meth c D G A H0 true n0 M_X11_image x 0 0 0 [(0, (21, a0)), (1, (0, a1))] [] h := by
  unfold fX11_image at hr
  refine r_aload_n dX11_image_0 rfl 0 rfl (nl rfl) ?_
  refine r_iload_n dX11_image_1 rfl 1 rfl (Or.inl rfl) ?_
  obtain ⟨r2, hg2, hr⟩ := bnd hr
  refine k_V (ci := 11) (o := a0) (T := TX11) (as := [(0, a1)]) (rest := []) (X := (some (110, r2), h)) (oX11_imageIn hg2) gX11_imageIn rfl (by decide) rfl (wsl_72 _ (List.mem_of_getElem? (i := 11) rfl)) rfl dX11_image_2 rfl ?_
  refine r_astore_n dX11_image_5 rfl (nl rfl) (by decide) (lv' := [(2, (110, r2)), (0, (21, a0)), (1, (0, a1))]) rfl ?_
  refine r_aload_n dX11_image_6 rfl 0 rfl (nl rfl) ?_
  refine r_ifnonnull (v := (110, r2)) (nl rfl) dX11_image_7 (tgt := 12) (by decide) (fun hc => ?_) (fun hc => ?_)
  · have hr := ifp hr hc
    refine r_iconst dX11_image_10 (by decide) ?_
    refine r_scast 0 (v := (0, 0)) (w := (2, 0)) rfl cz (fun _ => Or.inl rfl) (st' := [(2, 0)]) rfl ?_
    obtain rfl := Option.some.inj hr
    exact r_ret dX11_image_11 rfl (Or.inr ⟨rfl, rfl⟩) (k0 _ hk) ⟨rfl, rfl⟩
  · have hr := ifn hr (Int.not_lt.mpr hc)
    refine r_lcast 0 (v := (110, r2)) (w := (10, r2)) rfl (cnn (t := 7)) (hTn (t := 7) (by decide) hc) (lv' := [(2, (10, r2)), (0, (21, a0)), (1, (0, a1))]) rfl ?_
    refine r_aload_n dX11_image_12 rfl 0 rfl (nl rfl) ?_
    refine r_iconst dX11_image_13 (by decide) ?_
    refine r_scast 0 (v := (0, 1)) (w := (2, 1)) rfl cz (fun _ => Or.inr rfl) (st' := [(2, 1), (10, r2)]) rfl ?_
    obtain ⟨h14, hg14, hr⟩ := bnd hr
    refine r_put' 0 0 (t := 2) (ref := "FollowingRefs$Image") hg14 rfl tyX0 tyX0_ok nmX0 rfl (by decide) rfl (by decide) inlX0 (wsl_72 _ (List.mem_of_getElem? (i := 7) rfl)) rfl rfl (by decide +kernel) (by decide) rfl (Or.inr (Or.inr (Or.inl ⟨rfl, rfl⟩))) dX11_image_14 ?_
    refine r_aload_n dX11_image_17 rfl 0 rfl (nl rfl) ?_
    refine r_get 0 1 (o := r2) (w := (14, h14 r2 1)) (T := TX0) (ref := "FollowingRefs$Image") rfl (by decide) rfl (by decide) inlX0 (wsl_72 _ (List.mem_of_getElem? (i := 8) rfl)) rfl dX11_image_18 rfl ?_
    refine r_aload_n dX11_image_21 rfl 1 rfl (nl rfl) ?_
    refine r_get 11 1 (o := a0) (w := (14, h14 a0 1)) (T := TX11) (ref := "FollowingRefs") rfl (by decide) rfl (by decide) inlX11 (wsl_1 _ (List.mem_of_getElem? (i := 20) rfl)) rfl dX11_image_22 rfl ?_
    obtain ⟨h25, hg25, hr⟩ := bnd hr
    refine k_V (ci := 4) (o := h14 r2 1) (T := TX4) (as := [(14, h14 a0 1)]) (rest := []) (X := (none, h25)) (oX4_copyFrom hg25) gX4_copyFrom rfl (by decide) rfl (wsl_22 _ (List.mem_of_getElem? (i := 1) rfl)) rfl dX11_image_25 rfl ?_
    refine r_aload_n dX11_image_28 rfl 0 rfl (nl rfl) ?_
    refine r_get 0 2 (o := r2) (w := (18, h25 r2 2)) (T := TX0) (ref := "FollowingRefs$Image") rfl (by decide) rfl (by decide) inlX0 (wsl_72 _ (List.mem_of_getElem? (i := 9) rfl)) rfl dX11_image_29 rfl ?_
    refine r_aload_n dX11_image_32 rfl 1 rfl (nl rfl) ?_
    refine r_get 11 2 (o := a0) (w := (18, h25 a0 2)) (T := TX11) (ref := "FollowingRefs") rfl (by decide) rfl (by decide) inlX11 (wsl_2 _ (List.mem_of_getElem? (i := 0) rfl)) rfl dX11_image_33 rfl ?_
    obtain ⟨h36, hg36, hr⟩ := bnd hr
    refine k_V (ci := 8) (o := h25 r2 2) (T := TX8) (as := [(18, h25 a0 2)]) (rest := []) (X := (none, h36)) (oX8_copyFrom hg36) gX8_copyFrom rfl (by decide) rfl (wsl_39 _ (List.mem_of_getElem? (i := 21) rfl)) rfl dX11_image_36 rfl ?_
    refine r_aload_n dX11_image_39 rfl 0 rfl (nl rfl) ?_
    refine r_get 0 3 (o := r2) (w := (16, h36 r2 3)) (T := TX0) (ref := "FollowingRefs$Image") rfl (by decide) rfl (by decide) inlX0 (wsl_72 _ (List.mem_of_getElem? (i := 10) rfl)) rfl dX11_image_40 rfl ?_
    refine r_aload_n dX11_image_43 rfl 1 rfl (nl rfl) ?_
    refine r_get 11 3 (o := a0) (w := (16, h36 a0 3)) (T := TX11) (ref := "FollowingRefs") rfl (by decide) rfl (by decide) inlX11 (wsl_2 _ (List.mem_of_getElem? (i := 4) rfl)) rfl dX11_image_44 rfl ?_
    obtain ⟨h47, hg47, hr⟩ := bnd hr
    refine k_V (ci := 6) (o := h36 r2 3) (T := TX6) (as := [(16, h36 a0 3)]) (rest := []) (X := (none, h47)) (oX6_copyFrom hg47) gX6_copyFrom rfl (by decide) rfl (wsl_68 _ (List.mem_of_getElem? (i := 10) rfl)) rfl dX11_image_47 rfl ?_
    refine r_iconst dX11_image_50 (by decide) ?_
    refine r_scast 0 (v := (0, 1)) (w := (2, 1)) rfl cz (fun _ => Or.inr rfl) (st' := [(2, 1)]) rfl ?_
    obtain rfl := Option.some.inj hr
    exact r_ret dX11_image_51 rfl (Or.inr ⟨rfl, rfl⟩) (k0 _ hk) ⟨rfl, rfl⟩
end M_X11_image
theorem oX11_image {l : Launch} {D : va_G} {G : gG} {h : hH} {a0 a1 : Int} {r : Int × hH} (hr : fX11_image h a0 a1 = some r) : Ctr l D G true yX11_image M_X11_image [(21, a0), (0, a1)] h (some (2, r.1), r.2) :=
  Ctr_of (by decide) rfl (fun z => by cases z) (nl rfl) (fun {p e R s m args below meth c A H0} => by
    exact oX11_image_b0 (K := fun z9 => z9 = r) (fun r9 z => by rw [z]) hr rfl)
/-! X11_restore -/
theorem dX11_restore_0 : decode cX11_restore 0 = .ok (.aload_n 0, 1) := by decide +kernel
theorem dX11_restore_1 : decode cX11_restore 1 = .ok (.iload_n 1, 1) := by decide +kernel
theorem dX11_restore_2 : decode cX11_restore 2 = .ok (.invokevirtual 383, 3) := by decide +kernel
theorem dX11_restore_5 : decode cX11_restore 5 = .ok (.astore_n 2, 1) := by decide +kernel
theorem dX11_restore_6 : decode cX11_restore 6 = .ok (.aload_n 2, 1) := by decide +kernel
theorem dX11_restore_7 : decode cX11_restore 7 = .ok (.ifnull 10, 3) := by decide +kernel
theorem dX11_restore_10 : decode cX11_restore 10 = .ok (.aload_n 2, 1) := by decide +kernel
theorem dX11_restore_11 : decode cX11_restore 11 = .ok (.getfield 387, 3) := by decide +kernel
theorem dX11_restore_14 : decode cX11_restore 14 = .ok (.ifCond .ne 5, 3) := by decide +kernel
theorem dX11_restore_17 : decode cX11_restore 17 = .ok (.iconst 0, 1) := by decide +kernel
theorem dX11_restore_18 : decode cX11_restore 18 = .ok (.ireturn, 1) := by decide +kernel
theorem dX11_restore_19 : decode cX11_restore 19 = .ok (.aload_n 0, 1) := by decide +kernel
theorem dX11_restore_20 : decode cX11_restore 20 = .ok (.getfield 19, 3) := by decide +kernel
theorem dX11_restore_23 : decode cX11_restore 23 = .ok (.aload_n 2, 1) := by decide +kernel
theorem dX11_restore_24 : decode cX11_restore 24 = .ok (.getfield 390, 3) := by decide +kernel
theorem dX11_restore_27 : decode cX11_restore 27 = .ok (.invokevirtual 120, 3) := by decide +kernel
theorem dX11_restore_30 : decode cX11_restore 30 = .ok (.aload_n 0, 1) := by decide +kernel
theorem dX11_restore_31 : decode cX11_restore 31 = .ok (.getfield 26, 3) := by decide +kernel
theorem dX11_restore_34 : decode cX11_restore 34 = .ok (.aload_n 2, 1) := by decide +kernel
theorem dX11_restore_35 : decode cX11_restore 35 = .ok (.getfield 391, 3) := by decide +kernel
theorem dX11_restore_38 : decode cX11_restore 38 = .ok (.invokevirtual 217, 3) := by decide +kernel
theorem dX11_restore_41 : decode cX11_restore 41 = .ok (.aload_n 0, 1) := by decide +kernel
theorem dX11_restore_42 : decode cX11_restore 42 = .ok (.getfield 33, 3) := by decide +kernel
theorem dX11_restore_45 : decode cX11_restore 45 = .ok (.aload_n 2, 1) := by decide +kernel
theorem dX11_restore_46 : decode cX11_restore 46 = .ok (.getfield 392, 3) := by decide +kernel
theorem dX11_restore_49 : decode cX11_restore 49 = .ok (.invokevirtual 370, 3) := by decide +kernel
theorem dX11_restore_52 : decode cX11_restore 52 = .ok (.aload_n 0, 1) := by decide +kernel
theorem dX11_restore_53 : decode cX11_restore 53 = .ok (.iconst 0, 1) := by decide +kernel
theorem dX11_restore_54 : decode cX11_restore 54 = .ok (.putfield 128, 3) := by decide +kernel
theorem dX11_restore_57 : decode cX11_restore 57 = .ok (.iconst 1, 1) := by decide +kernel
theorem dX11_restore_58 : decode cX11_restore 58 = .ok (.ireturn, 1) := by decide +kernel
abbrev M_X11_restore : mM := (cX11_restore, 3, RX11, some .boolean, false, 4, 147, 0, 0)
theorem gX11_restore : cI yX11_restore M_X11_restore 1 := ⟨(wsl_72 _ (List.mem_of_getElem? (i := 20) rfl)), (wsl_72 _ (List.mem_of_getElem? (i := 21) rfl)), (wsl_1 _ (List.mem_of_getElem? (i := 2) rfl)), (wsl_72 _ (List.mem_of_getElem? (i := 22) rfl)), by decide +kernel⟩
noncomputable def fX11_restore (h : hH) (a0 a1 : Int) : Option (Int × hH) :=
  (fX11_imageIn h a0 a1).bind fun r2 =>
  if r2 < 0 then
    some (0, h)
  else
    if h r2 0 = 0 then
      some (0, h)
    else
      (fX4_copyFrom h (h a0 1) (h r2 1)).bind fun h27 =>
      (fX8_copyFrom h27 (h27 a0 2) (h27 r2 2)).bind fun h38 =>
      (fX6_copyFrom h38 (h38 a0 3) (h38 r2 3)).bind fun h49 =>
      (pput h49 a0 11 0).bind fun h54 =>
      some (1, h54)
section M_X11_restore
variable {p : Program} {l : Launch} {e : Env} {R : Room} {s : State} {m : MethodId} {args : Array Value} {below : List Frame} {meth : Method} {c : Code} {D : va_G} {G : gG} {A : Nat → Prop} {H0 : Heap} {n0 : Int} {x : Option vV × hH} {h : hH}
set_option maxRecDepth 100000 in
set_option maxHeartbeats 4000000 in
theorem oX11_restore_b0 {a0 a1 : Int} {K : Int × hH → Prop} (k0 : ∀ r, K (r) → x = (some (2, r.1), r.2)) {r : Int × hH} (hr : fX11_restore h a0 a1 = some r) (hk : K r) : Wq p l e R s m args below meth c D G A H0 true n0 M_X11_restore x 0 0 0 [(0, (21, a0)), (1, (0, a1))] [] h := by
  unfold fX11_restore at hr
  refine r_aload_n dX11_restore_0 rfl 0 rfl (nl rfl) ?_
  refine r_iload_n dX11_restore_1 rfl 1 rfl (Or.inl rfl) ?_
  obtain ⟨r2, hg2, hr⟩ := bnd hr
  refine k_V (ci := 11) (o := a0) (T := TX11) (as := [(0, a1)]) (rest := []) (X := (some (110, r2), h)) (oX11_imageIn hg2) gX11_imageIn rfl (by decide) rfl (wsl_72 _ (List.mem_of_getElem? (i := 11) rfl)) rfl dX11_restore_2 rfl ?_
  refine r_astore_n dX11_restore_5 rfl (nl rfl) (by decide) (lv' := [(2, (110, r2)), (0, (21, a0)), (1, (0, a1))]) rfl ?_
  refine r_aload_n dX11_restore_6 rfl 0 rfl (nl rfl) ?_
  refine r_ifnull (v := (110, r2)) (nl rfl) dX11_restore_7 (tgt := 17) (by decide) (fun hc => ?_) (fun hc => ?_)
  · have hr := ifp hr hc
    refine r_iconst dX11_restore_17 (by decide) ?_
    refine r_scast 0 (v := (0, 0)) (w := (2, 0)) rfl cz (fun _ => Or.inl rfl) (st' := [(2, 0)]) rfl ?_
    obtain rfl := Option.some.inj hr
    exact r_ret dX11_restore_18 rfl (Or.inr ⟨rfl, rfl⟩) (k0 _ hk) ⟨rfl, rfl⟩
  · have hr := ifn hr (Int.not_lt.mpr hc)
    refine r_lcast 0 (v := (110, r2)) (w := (10, r2)) rfl (cnn (t := 7)) (hTn (t := 7) (by decide) hc) (lv' := [(2, (10, r2)), (0, (21, a0)), (1, (0, a1))]) rfl ?_
    refine r_aload_n dX11_restore_10 rfl 0 rfl (nl rfl) ?_
    refine r_get 0 0 (o := r2) (w := (2, h r2 0)) (T := TX0) (ref := "FollowingRefs$Image") rfl (by decide) rfl (by decide) inlX0 (wsl_72 _ (List.mem_of_getElem? (i := 7) rfl)) rfl dX11_restore_11 rfl ?_
    refine r_scast 0 (v := (2, h r2 0)) (w := (0, h r2 0)) rfl zc hTz (st' := [(0, h r2 0)]) rfl ?_
    refine r_if_ne dX11_restore_14 (tgt := 19) (by decide) (fun hc => ?_) (fun hc => ?_)
    · have hr := ifn hr hc
      refine r_aload_n dX11_restore_19 rfl 1 rfl (nl rfl) ?_
      refine r_get 11 1 (o := a0) (w := (14, h a0 1)) (T := TX11) (ref := "FollowingRefs") rfl (by decide) rfl (by decide) inlX11 (wsl_1 _ (List.mem_of_getElem? (i := 20) rfl)) rfl dX11_restore_20 rfl ?_
      refine r_aload_n dX11_restore_23 rfl 0 rfl (nl rfl) ?_
      refine r_get 0 1 (o := r2) (w := (14, h r2 1)) (T := TX0) (ref := "FollowingRefs$Image") rfl (by decide) rfl (by decide) inlX0 (wsl_72 _ (List.mem_of_getElem? (i := 8) rfl)) rfl dX11_restore_24 rfl ?_
      obtain ⟨h27, hg27, hr⟩ := bnd hr
      refine k_V (ci := 4) (o := h a0 1) (T := TX4) (as := [(14, h r2 1)]) (rest := []) (X := (none, h27)) (oX4_copyFrom hg27) gX4_copyFrom rfl (by decide) rfl (wsl_22 _ (List.mem_of_getElem? (i := 1) rfl)) rfl dX11_restore_27 rfl ?_
      refine r_aload_n dX11_restore_30 rfl 1 rfl (nl rfl) ?_
      refine r_get 11 2 (o := a0) (w := (18, h27 a0 2)) (T := TX11) (ref := "FollowingRefs") rfl (by decide) rfl (by decide) inlX11 (wsl_2 _ (List.mem_of_getElem? (i := 0) rfl)) rfl dX11_restore_31 rfl ?_
      refine r_aload_n dX11_restore_34 rfl 0 rfl (nl rfl) ?_
      refine r_get 0 2 (o := r2) (w := (18, h27 r2 2)) (T := TX0) (ref := "FollowingRefs$Image") rfl (by decide) rfl (by decide) inlX0 (wsl_72 _ (List.mem_of_getElem? (i := 9) rfl)) rfl dX11_restore_35 rfl ?_
      obtain ⟨h38, hg38, hr⟩ := bnd hr
      refine k_V (ci := 8) (o := h27 a0 2) (T := TX8) (as := [(18, h27 r2 2)]) (rest := []) (X := (none, h38)) (oX8_copyFrom hg38) gX8_copyFrom rfl (by decide) rfl (wsl_39 _ (List.mem_of_getElem? (i := 21) rfl)) rfl dX11_restore_38 rfl ?_
      refine r_aload_n dX11_restore_41 rfl 1 rfl (nl rfl) ?_
      refine r_get 11 3 (o := a0) (w := (16, h38 a0 3)) (T := TX11) (ref := "FollowingRefs") rfl (by decide) rfl (by decide) inlX11 (wsl_2 _ (List.mem_of_getElem? (i := 4) rfl)) rfl dX11_restore_42 rfl ?_
      refine r_aload_n dX11_restore_45 rfl 0 rfl (nl rfl) ?_
      refine r_get 0 3 (o := r2) (w := (16, h38 r2 3)) (T := TX0) (ref := "FollowingRefs$Image") rfl (by decide) rfl (by decide) inlX0 (wsl_72 _ (List.mem_of_getElem? (i := 10) rfl)) rfl dX11_restore_46 rfl ?_
      obtain ⟨h49, hg49, hr⟩ := bnd hr
      refine k_V (ci := 6) (o := h38 a0 3) (T := TX6) (as := [(16, h38 r2 3)]) (rest := []) (X := (none, h49)) (oX6_copyFrom hg49) gX6_copyFrom rfl (by decide) rfl (wsl_68 _ (List.mem_of_getElem? (i := 10) rfl)) rfl dX11_restore_49 rfl ?_
      refine r_aload_n dX11_restore_52 rfl 1 rfl (nl rfl) ?_
      refine r_iconst dX11_restore_53 (by decide) ?_
      obtain ⟨h54, hg54, hr⟩ := bnd hr
      refine r_put' 11 11 (t := 0) (ref := "FollowingRefs") hg54 rfl tyX11 tyX11_ok nmX11 rfl (by decide) rfl (by decide) inlX11 (wsl_11 _ (List.mem_of_getElem? (i := 7) rfl)) rfl rfl (by decide +kernel) (by decide) rfl (Or.inl ⟨rfl, rfl⟩) dX11_restore_54 ?_
      refine r_iconst dX11_restore_57 (by decide) ?_
      refine r_scast 0 (v := (0, 1)) (w := (2, 1)) rfl cz (fun _ => Or.inr rfl) (st' := [(2, 1)]) rfl ?_
      obtain rfl := Option.some.inj hr
      exact r_ret dX11_restore_58 rfl (Or.inr ⟨rfl, rfl⟩) (k0 _ hk) ⟨rfl, rfl⟩
    · have hr := ifp hr hc
      refine r_iconst dX11_restore_17 (by decide) ?_
      refine r_scast 0 (v := (0, 0)) (w := (2, 0)) rfl cz (fun _ => Or.inl rfl) (st' := [(2, 0)]) rfl ?_
      obtain rfl := Option.some.inj hr
      exact r_ret dX11_restore_18 rfl (Or.inr ⟨rfl, rfl⟩) (k0 _ hk) ⟨rfl, rfl⟩
end M_X11_restore
theorem oX11_restore {l : Launch} {D : va_G} {G : gG} {h : hH} {a0 a1 : Int} {r : Int × hH} (hr : fX11_restore h a0 a1 = some r) : Ctr l D G true yX11_restore M_X11_restore [(21, a0), (0, a1)] h (some (2, r.1), r.2) :=
  Ctr_of (by decide) rfl (fun z => by cases z) (nl rfl) (fun {p e R s m args below meth c A H0} => by
    exact oX11_restore_b0 (K := fun z9 => z9 = r) (fun r9 z => by rw [z]) hr rfl)
/-! X11_count -/
theorem dX11_count_0 : decode cX11_count 0 = .ok (.iload_n 1, 1) := by decide +kernel
theorem dX11_count_1 : decode cX11_count 1 = .ok (.tableswitch 75 0 4 #[35, 43, 51, 59, 67], 35) := by decide +kernel
theorem dX11_count_36 : decode cX11_count 36 = .ok (.aload_n 0, 1) := by decide +kernel
theorem dX11_count_37 : decode cX11_count 37 = .ok (.getfield 19, 3) := by decide +kernel
theorem dX11_count_40 : decode cX11_count 40 = .ok (.getfield 225, 3) := by decide +kernel
theorem dX11_count_43 : decode cX11_count 43 = .ok (.ireturn, 1) := by decide +kernel
theorem dX11_count_44 : decode cX11_count 44 = .ok (.aload_n 0, 1) := by decide +kernel
theorem dX11_count_45 : decode cX11_count 45 = .ok (.getfield 19, 3) := by decide +kernel
theorem dX11_count_48 : decode cX11_count 48 = .ok (.getfield 395, 3) := by decide +kernel
theorem dX11_count_51 : decode cX11_count 51 = .ok (.ireturn, 1) := by decide +kernel
theorem dX11_count_52 : decode cX11_count 52 = .ok (.aload_n 0, 1) := by decide +kernel
theorem dX11_count_53 : decode cX11_count 53 = .ok (.getfield 19, 3) := by decide +kernel
theorem dX11_count_56 : decode cX11_count 56 = .ok (.getfield 250, 3) := by decide +kernel
theorem dX11_count_59 : decode cX11_count 59 = .ok (.ireturn, 1) := by decide +kernel
theorem dX11_count_60 : decode cX11_count 60 = .ok (.aload_n 0, 1) := by decide +kernel
theorem dX11_count_61 : decode cX11_count 61 = .ok (.getfield 19, 3) := by decide +kernel
theorem dX11_count_64 : decode cX11_count 64 = .ok (.getfield 398, 3) := by decide +kernel
theorem dX11_count_67 : decode cX11_count 67 = .ok (.ireturn, 1) := by decide +kernel
theorem dX11_count_68 : decode cX11_count 68 = .ok (.aload_n 0, 1) := by decide +kernel
theorem dX11_count_69 : decode cX11_count 69 = .ok (.getfield 12, 3) := by decide +kernel
theorem dX11_count_72 : decode cX11_count 72 = .ok (.getfield 102, 3) := by decide +kernel
theorem dX11_count_75 : decode cX11_count 75 = .ok (.ireturn, 1) := by decide +kernel
theorem dX11_count_76 : decode cX11_count 76 = .ok (.iconst (-1), 1) := by decide +kernel
theorem dX11_count_77 : decode cX11_count 77 = .ok (.ireturn, 1) := by decide +kernel
abbrev M_X11_count : mM := (cX11_count, 2, RX11, some .int, false, 0, 0, 0, 0)
theorem gX11_count : cI yX11_count M_X11_count 1 := ⟨(wsl_73 _ (List.mem_of_getElem? (i := 4) rfl)), (wsl_73 _ (List.mem_of_getElem? (i := 5) rfl)), (wsl_1 _ (List.mem_of_getElem? (i := 2) rfl)), (wsl_73 _ (List.mem_of_getElem? (i := 6) rfl)), by decide +kernel⟩
noncomputable def fX11_count (h : hH) (a0 a1 : Int) : Option (Int) :=
  if a1 = 0 then
    some (h (h a0 1) 0)
  else
    if a1 = 1 then
      some (h (h a0 1) 1)
    else
      if a1 = 2 then
        some (h (h a0 1) 2)
      else
        if a1 = 3 then
          some (h (h a0 1) 3)
        else
          if a1 = 4 then
            some (h (h a0 0) 1)
          else
            some (-1)
section M_X11_count
variable {p : Program} {l : Launch} {e : Env} {R : Room} {s : State} {m : MethodId} {args : Array Value} {below : List Frame} {meth : Method} {c : Code} {D : va_G} {G : gG} {A : Nat → Prop} {H0 : Heap} {n0 : Int} {x : Option vV × hH} {h : hH}
set_option maxRecDepth 100000 in
set_option maxHeartbeats 4000000 in
theorem oX11_count_b0 {a0 a1 : Int} {K : Int → Prop} (k0 : ∀ r, K (r) → x = (some (0, r), h)) {r : Int} (hr : fX11_count h a0 a1 = some r) (hk : K r) : Wq p l e R s m args below meth c D G A H0 true n0 M_X11_count x 0 0 0 [(0, (21, a0)), (1, (0, a1))] [] h := by
  unfold fX11_count at hr
  refine r_iload_n dX11_count_0 rfl 1 rfl (Or.inl rfl) ?_
  by_cases hs0 : a1 = 0
  · have hr := ifp hr hs0
    refine r_tableIn dX11_count_1 (by omega) (by omega) (off := 35) (by rw [hs0]; rfl) (tgt := 36) (by decide) ?_
    refine r_aload_n dX11_count_36 rfl 0 rfl (nl rfl) ?_
    refine r_get 11 1 (o := a0) (w := (14, h a0 1)) (T := TX11) (ref := "FollowingRefs") rfl (by decide) rfl (by decide) inlX11 (wsl_1 _ (List.mem_of_getElem? (i := 20) rfl)) rfl dX11_count_37 rfl ?_
    refine r_get 4 0 (o := h a0 1) (w := (0, h (h a0 1) 0)) (T := TX4) (ref := "FollowingRefs$Schema") rfl (by decide) rfl (by decide) inlX4 (wsl_52 _ (List.mem_of_getElem? (i := 18) rfl)) rfl dX11_count_40 rfl ?_
    obtain rfl := Option.some.inj hr
    exact r_ret dX11_count_43 rfl (Or.inl ⟨rfl, rfl⟩) (k0 _ hk) ⟨rfl, rfl⟩
  have hr := ifn hr hs0
  by_cases hs1 : a1 = 1
  · have hr := ifp hr hs1
    refine r_tableIn dX11_count_1 (by omega) (by omega) (off := 43) (by rw [hs1]; rfl) (tgt := 44) (by decide) ?_
    refine r_aload_n dX11_count_44 rfl 0 rfl (nl rfl) ?_
    refine r_get 11 1 (o := a0) (w := (14, h a0 1)) (T := TX11) (ref := "FollowingRefs") rfl (by decide) rfl (by decide) inlX11 (wsl_1 _ (List.mem_of_getElem? (i := 20) rfl)) rfl dX11_count_45 rfl ?_
    refine r_get 4 1 (o := h a0 1) (w := (0, h (h a0 1) 1)) (T := TX4) (ref := "FollowingRefs$Schema") rfl (by decide) rfl (by decide) inlX4 (wsl_73 _ (List.mem_of_getElem? (i := 7) rfl)) rfl dX11_count_48 rfl ?_
    obtain rfl := Option.some.inj hr
    exact r_ret dX11_count_51 rfl (Or.inl ⟨rfl, rfl⟩) (k0 _ hk) ⟨rfl, rfl⟩
  have hr := ifn hr hs1
  by_cases hs2 : a1 = 2
  · have hr := ifp hr hs2
    refine r_tableIn dX11_count_1 (by omega) (by omega) (off := 51) (by rw [hs2]; rfl) (tgt := 52) (by decide) ?_
    refine r_aload_n dX11_count_52 rfl 0 rfl (nl rfl) ?_
    refine r_get 11 1 (o := a0) (w := (14, h a0 1)) (T := TX11) (ref := "FollowingRefs") rfl (by decide) rfl (by decide) inlX11 (wsl_1 _ (List.mem_of_getElem? (i := 20) rfl)) rfl dX11_count_53 rfl ?_
    refine r_get 4 2 (o := h a0 1) (w := (0, h (h a0 1) 2)) (T := TX4) (ref := "FollowingRefs$Schema") rfl (by decide) rfl (by decide) inlX4 (wsl_55 _ (List.mem_of_getElem? (i := 21) rfl)) rfl dX11_count_56 rfl ?_
    obtain rfl := Option.some.inj hr
    exact r_ret dX11_count_59 rfl (Or.inl ⟨rfl, rfl⟩) (k0 _ hk) ⟨rfl, rfl⟩
  have hr := ifn hr hs2
  by_cases hs3 : a1 = 3
  · have hr := ifp hr hs3
    refine r_tableIn dX11_count_1 (by omega) (by omega) (off := 59) (by rw [hs3]; rfl) (tgt := 60) (by decide) ?_
    refine r_aload_n dX11_count_60 rfl 0 rfl (nl rfl) ?_
    refine r_get 11 1 (o := a0) (w := (14, h a0 1)) (T := TX11) (ref := "FollowingRefs") rfl (by decide) rfl (by decide) inlX11 (wsl_1 _ (List.mem_of_getElem? (i := 20) rfl)) rfl dX11_count_61 rfl ?_
    refine r_get 4 3 (o := h a0 1) (w := (0, h (h a0 1) 3)) (T := TX4) (ref := "FollowingRefs$Schema") rfl (by decide) rfl (by decide) inlX4 (wsl_73 _ (List.mem_of_getElem? (i := 8) rfl)) rfl dX11_count_64 rfl ?_
    obtain rfl := Option.some.inj hr
    exact r_ret dX11_count_67 rfl (Or.inl ⟨rfl, rfl⟩) (k0 _ hk) ⟨rfl, rfl⟩
  have hr := ifn hr hs3
  by_cases hs4 : a1 = 4
  · have hr := ifp hr hs4
    refine r_tableIn dX11_count_1 (by omega) (by omega) (off := 67) (by rw [hs4]; rfl) (tgt := 68) (by decide) ?_
    refine r_aload_n dX11_count_68 rfl 0 rfl (nl rfl) ?_
    refine r_get 11 0 (o := a0) (w := (19, h a0 0)) (T := TX11) (ref := "FollowingRefs") rfl (by decide) rfl (by decide) inlX11 (wsl_1 _ (List.mem_of_getElem? (i := 16) rfl)) rfl dX11_count_69 rfl ?_
    refine r_get 9 1 (o := h a0 0) (w := (0, h (h a0 0) 1)) (T := TX9) (ref := "FollowingRefs$Text") rfl (by decide) rfl (by decide) inlX9 (wsl_10 _ (List.mem_of_getElem? (i := 1) rfl)) rfl dX11_count_72 rfl ?_
    obtain rfl := Option.some.inj hr
    exact r_ret dX11_count_75 rfl (Or.inl ⟨rfl, rfl⟩) (k0 _ hk) ⟨rfl, rfl⟩
  have hr := ifn hr hs4
  refine r_tableOut dX11_count_1 (by omega) (tgt := 76) (by decide) ?_
  refine r_iconst dX11_count_76 (by decide) ?_
  obtain rfl := Option.some.inj hr
  exact r_ret dX11_count_77 rfl (Or.inl ⟨rfl, rfl⟩) (k0 _ hk) ⟨rfl, rfl⟩
end M_X11_count
theorem oX11_count {l : Launch} {D : va_G} {G : gG} {h : hH} {a0 a1 : Int} {r : Int} (hr : fX11_count h a0 a1 = some r) : Ctr l D G true yX11_count M_X11_count [(21, a0), (0, a1)] h (some (0, r), h) :=
  Ctr_of (by decide) rfl (fun z => by cases z) (nl rfl) (fun {p e R s m args below meth c A H0} => by
    exact oX11_count_b0 (K := fun z9 => z9 = r) (fun r9 z => by rw [z]) hr rfl)
/-! X11_commonDivisor -/
theorem dX11_commonDivisor_0 : decode cX11_commonDivisor 0 = .ok (.iload_n 0, 1) := by decide +kernel
theorem dX11_commonDivisor_1 : decode cX11_commonDivisor 1 = .ok (.istore_n 2, 1) := by decide +kernel
theorem dX11_commonDivisor_2 : decode cX11_commonDivisor 2 = .ok (.iload_n 1, 1) := by decide +kernel
theorem dX11_commonDivisor_3 : decode cX11_commonDivisor 3 = .ok (.istore_n 3, 1) := by decide +kernel
theorem dX11_commonDivisor_4 : decode cX11_commonDivisor 4 = .ok (.iconst 0, 1) := by decide +kernel
theorem dX11_commonDivisor_5 : decode cX11_commonDivisor 5 = .ok (.istore 4, 2) := by decide +kernel
theorem dX11_commonDivisor_7 : decode cX11_commonDivisor 7 = .ok (.iload 4, 2) := by decide +kernel
theorem dX11_commonDivisor_9 : decode cX11_commonDivisor 9 = .ok (.bipush 64, 2) := by decide +kernel
theorem dX11_commonDivisor_11 : decode cX11_commonDivisor 11 = .ok (.if_icmp .ge 23, 3) := by decide +kernel
theorem dX11_commonDivisor_14 : decode cX11_commonDivisor 14 = .ok (.iload_n 3, 1) := by decide +kernel
theorem dX11_commonDivisor_15 : decode cX11_commonDivisor 15 = .ok (.ifCond .eq 19, 3) := by decide +kernel
theorem dX11_commonDivisor_18 : decode cX11_commonDivisor 18 = .ok (.iload_n 2, 1) := by decide +kernel
theorem dX11_commonDivisor_19 : decode cX11_commonDivisor 19 = .ok (.iload_n 3, 1) := by decide +kernel
theorem dX11_commonDivisor_20 : decode cX11_commonDivisor 20 = .ok (.irem, 1) := by decide +kernel
theorem dX11_commonDivisor_21 : decode cX11_commonDivisor 21 = .ok (.istore 5, 2) := by decide +kernel
theorem dX11_commonDivisor_23 : decode cX11_commonDivisor 23 = .ok (.iload_n 3, 1) := by decide +kernel
theorem dX11_commonDivisor_24 : decode cX11_commonDivisor 24 = .ok (.istore_n 2, 1) := by decide +kernel
theorem dX11_commonDivisor_25 : decode cX11_commonDivisor 25 = .ok (.iload 5, 2) := by decide +kernel
theorem dX11_commonDivisor_27 : decode cX11_commonDivisor 27 = .ok (.istore_n 3, 1) := by decide +kernel
theorem dX11_commonDivisor_28 : decode cX11_commonDivisor 28 = .ok (.iinc 4 1, 3) := by decide +kernel
theorem dX11_commonDivisor_31 : decode cX11_commonDivisor 31 = .ok (.goto (-24), 3) := by decide +kernel
theorem dX11_commonDivisor_34 : decode cX11_commonDivisor 34 = .ok (.iload_n 2, 1) := by decide +kernel
theorem dX11_commonDivisor_35 : decode cX11_commonDivisor 35 = .ok (.ireturn, 1) := by decide +kernel
abbrev M_X11_commonDivisor : mM := (cX11_commonDivisor, 6, RX11, some .int, false, 0, 0, 0, 0)
theorem gX11_commonDivisor : cS yX11_commonDivisor M_X11_commonDivisor 2 := ⟨(wsl_61 _ (List.mem_of_getElem? (i := 4) rfl)), (wsl_1 _ (List.mem_of_getElem? (i := 2) rfl)), (wsl_61 _ (List.mem_of_getElem? (i := 5) rfl)), by decide +kernel⟩
noncomputable def fX11_commonDivisor_s7 (h : hH) : Int × Int × Int → Option ((Int × Int × Int) ⊕ (Int)) := fun (l2, l3, l4) =>
  if l4 < 64 then
    if l3 = 0 then
      some (.inr (l2))
    else
      (gdz l3).bind fun _ =>
      some (.inl (l3, irmD l2 l3, w32 (l4 + 1)))
  else
    some (.inr (l2))
noncomputable def fX11_commonDivisor (h : hH) (a0 a1 : Int) : Option (Int) :=
  lpO (fX11_commonDivisor_s7 h) (a0, a1, 0)
section M_X11_commonDivisor
variable {p : Program} {l : Launch} {e : Env} {R : Room} {s : State} {m : MethodId} {args : Array Value} {below : List Frame} {meth : Method} {c : Code} {D : va_G} {G : gG} {A : Nat → Prop} {H0 : Heap} {n0 : Int} {x : Option vV × hH} {h : hH}
set_option maxRecDepth 100000 in
set_option maxHeartbeats 4000000 in
theorem oX11_commonDivisor_s7 {l2 l3 l4 : Int} {K : (Int × Int × Int) ⊕ (Int) → Prop} (k0 : ∀ r, K (.inr (r)) → x = (some (0, r), h)) (k1 : ∀ (l2 : Int) (l3 : Int) (l4 : Int), K (.inl (l2, l3, l4)) → Wq p l e R s m args below meth c D G A H0 true n0 M_X11_commonDivisor x 0 0 7 [(2, (0, l2)), (3, (0, l3)), (4, (0, l4))] [] h) {r : (Int × Int × Int) ⊕ (Int)} (hr : fX11_commonDivisor_s7 h  (l2, l3, l4) = some r) (hk : K r) : Wq p l e R s m args below meth c D G A H0 true n0 M_X11_commonDivisor x 0 0 7 [(2, (0, l2)), (3, (0, l3)), (4, (0, l4))] [] h := by
  unfold fX11_commonDivisor_s7 at hr
  refine r_iload dX11_commonDivisor_7 2 rfl (Or.inl rfl) ?_
  refine r_bipush dX11_commonDivisor_9 (by decide) (by decide) ?_
  refine r_icmp_ge dX11_commonDivisor_11 (tgt := 34) (by decide) (fun hc => ?_) (fun hc => ?_)
  · have hr := ifn hr hc
    refine r_iload_n dX11_commonDivisor_34 rfl 0 rfl (Or.inl rfl) ?_
    obtain rfl := Option.some.inj hr
    exact r_ret dX11_commonDivisor_35 rfl (Or.inl ⟨rfl, rfl⟩) (k0 _ hk) ⟨rfl, rfl⟩
  · have hr := ifp hr hc
    refine r_iload_n dX11_commonDivisor_14 rfl 1 rfl (Or.inl rfl) ?_
    refine r_if_eq dX11_commonDivisor_15 (tgt := 34) (by decide) (fun hc => ?_) (fun hc => ?_)
    · have hr := ifp hr hc
      refine r_iload_n dX11_commonDivisor_34 rfl 0 rfl (Or.inl rfl) ?_
      obtain rfl := Option.some.inj hr
      exact r_ret dX11_commonDivisor_35 rfl (Or.inl ⟨rfl, rfl⟩) (k0 _ hk) ⟨rfl, rfl⟩
    · have hr := ifn hr hc
      refine r_iload_n dX11_commonDivisor_18 rfl 0 rfl (Or.inl rfl) ?_
      refine r_iload_n dX11_commonDivisor_19 rfl 1 rfl (Or.inl rfl) ?_
      obtain ⟨z20, hg20, hr⟩ := bnd hr
      refine r_irem' dX11_commonDivisor_20 hg20 ?_
      refine r_istore dX11_commonDivisor_21 (Or.inl rfl) (by decide) (lv' := [(5, (0, irmD l2 l3)), (2, (0, l2)), (3, (0, l3)), (4, (0, l4))]) rfl ?_
      refine r_iload_n dX11_commonDivisor_23 rfl 2 rfl (Or.inl rfl) ?_
      refine r_istore_n dX11_commonDivisor_24 rfl (Or.inl rfl) (by decide) (lv' := [(2, (0, l3)), (5, (0, irmD l2 l3)), (3, (0, l3)), (4, (0, l4))]) rfl ?_
      refine r_iload dX11_commonDivisor_25 1 rfl (Or.inl rfl) ?_
      refine r_istore_n dX11_commonDivisor_27 rfl (Or.inl rfl) (by decide) (lv' := [(3, (0, irmD l2 l3)), (2, (0, l3)), (5, (0, irmD l2 l3)), (4, (0, l4))]) rfl ?_
      refine r_iinc (k := 3) (v := l4) dX11_commonDivisor_28 rfl (by decide) (lv' := [(4, (0, w32 (l4 + 1))), (3, (0, irmD l2 l3)), (2, (0, l3)), (5, (0, irmD l2 l3))]) rfl ?_
      refine r_goto dX11_commonDivisor_31 (tgt := 7) (by decide) ?_
      refine r_sub [2, 1, 0] (lv' := [(2, (0, l3)), (3, (0, irmD l2 l3)), (4, (0, w32 (l4 + 1)))]) rfl ?_
      obtain rfl := Option.some.inj hr
      exact k1 _ _ _ hk
set_option maxRecDepth 100000 in
set_option maxHeartbeats 4000000 in
theorem oX11_commonDivisor_b0 {a0 a1 : Int} {K : Int → Prop} (k0 : ∀ r, K (r) → x = (some (0, r), h)) {r : Int} (hr : fX11_commonDivisor h a0 a1 = some r) (hk : K r) : Wq p l e R s m args below meth c D G A H0 true n0 M_X11_commonDivisor x 0 0 0 [(0, (0, a0)), (1, (0, a1))] [] h := by
  unfold fX11_commonDivisor at hr
  refine r_iload_n dX11_commonDivisor_0 rfl 0 rfl (Or.inl rfl) ?_
  refine r_istore_n dX11_commonDivisor_1 rfl (Or.inl rfl) (by decide) (lv' := [(2, (0, a0)), (0, (0, a0)), (1, (0, a1))]) rfl ?_
  refine r_iload_n dX11_commonDivisor_2 rfl 2 rfl (Or.inl rfl) ?_
  refine r_istore_n dX11_commonDivisor_3 rfl (Or.inl rfl) (by decide) (lv' := [(3, (0, a1)), (2, (0, a0)), (0, (0, a0)), (1, (0, a1))]) rfl ?_
  refine r_iconst dX11_commonDivisor_4 (by decide) ?_
  refine r_istore dX11_commonDivisor_5 (Or.inl rfl) (by decide) (lv' := [(4, (0, 0)), (3, (0, a1)), (2, (0, a0)), (0, (0, a0)), (1, (0, a1))]) rfl ?_
  refine r_sub [2, 1, 0] (lv' := [(2, (0, a0)), (3, (0, a1)), (4, (0, 0))]) rfl ?_
  exact lp_ok (w := fun (q : Int × Int × Int) => Wq p l e R s m args below meth c D G A H0 true n0 M_X11_commonDivisor x 0 0 7 [(2, (0, q.1)), (3, (0, q.2.1)), (4, (0, q.2.2))] [] (h)) (K := K) (fun ⟨q0, q1, q2⟩ r h1 h2 => oX11_commonDivisor_s7 (K := Sum.elim (fun (q : Int × Int × Int) => Wq p l e R s m args below meth c D G A H0 true n0 M_X11_commonDivisor x 0 0 7 [(2, (0, q.1)), (3, (0, q.2.1)), (4, (0, q.2.2))] [] (h)) (K)) (fun r z => k0 r z) (fun _ _ _ z => z) h1 h2) hr hk
end M_X11_commonDivisor
theorem oX11_commonDivisor {l : Launch} {D : va_G} {G : gG} {h : hH} {a0 a1 : Int} {r : Int} (hr : fX11_commonDivisor h a0 a1 = some r) : Ctr l D G true yX11_commonDivisor M_X11_commonDivisor [(0, a0), (0, a1)] h (some (0, r), h) :=
  Ctr_of (by decide) rfl (fun z => by cases z) (nl rfl) (fun {p e R s m args below meth c A H0} => by
    exact oX11_commonDivisor_b0 (K := fun z9 => z9 = r) (fun r9 z => by rw [z]) hr rfl)
