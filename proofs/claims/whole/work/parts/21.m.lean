/-! X1_build -/
theorem dX1_build_0 : decode cX1_build 0 = .ok (.aload_n 0, 1) := by decide +kernel
theorem dX1_build_1 : decode cX1_build 1 = .ok (.getfield 12, 3) := by decide +kernel
theorem dX1_build_4 : decode cX1_build 4 = .ok (.aload_n 0, 1) := by decide +kernel
theorem dX1_build_5 : decode cX1_build 5 = .ok (.getfield 48, 3) := by decide +kernel
theorem dX1_build_8 : decode cX1_build 8 = .ok (.getfield 124, 3) := by decide +kernel
theorem dX1_build_11 : decode cX1_build 11 = .ok (.invokevirtual 130, 3) := by decide +kernel
theorem dX1_build_14 : decode cX1_build 14 = .ok (.iconst 0, 1) := by decide +kernel
theorem dX1_build_15 : decode cX1_build 15 = .ok (.istore_n 1, 1) := by decide +kernel
theorem dX1_build_16 : decode cX1_build 16 = .ok (.iload_n 1, 1) := by decide +kernel
theorem dX1_build_17 : decode cX1_build 17 = .ok (.aload_n 0, 1) := by decide +kernel
theorem dX1_build_18 : decode cX1_build 18 = .ok (.getfield 12, 3) := by decide +kernel
theorem dX1_build_21 : decode cX1_build 21 = .ok (.getfield 138, 3) := by decide +kernel
theorem dX1_build_24 : decode cX1_build 24 = .ok (.if_icmp .ge 39, 3) := by decide +kernel
theorem dX1_build_27 : decode cX1_build 27 = .ok (.aload_n 0, 1) := by decide +kernel
theorem dX1_build_28 : decode cX1_build 28 = .ok (.getfield 32, 3) := by decide +kernel
theorem dX1_build_31 : decode cX1_build 31 = .ok (.iload_n 1, 1) := by decide +kernel
theorem dX1_build_32 : decode cX1_build 32 = .ok (.invokestatic 165, 3) := by decide +kernel
theorem dX1_build_35 : decode cX1_build 35 = .ok (.iconst (-1), 1) := by decide +kernel
theorem dX1_build_36 : decode cX1_build 36 = .ok (.if_icmp .ne 21, 3) := by decide +kernel
theorem dX1_build_39 : decode cX1_build 39 = .ok (.aload_n 0, 1) := by decide +kernel
theorem dX1_build_40 : decode cX1_build 40 = .ok (.iload_n 1, 1) := by decide +kernel
theorem dX1_build_41 : decode cX1_build 41 = .ok (.invokevirtual 198, 3) := by decide +kernel
theorem dX1_build_44 : decode cX1_build 44 = .ok (.ifCond .eq 13, 3) := by decide +kernel
theorem dX1_build_47 : decode cX1_build 47 = .ok (.aload_n 0, 1) := by decide +kernel
theorem dX1_build_48 : decode cX1_build 48 = .ok (.dup, 1) := by decide +kernel
theorem dX1_build_49 : decode cX1_build 49 = .ok (.getfield 111, 3) := by decide +kernel
theorem dX1_build_52 : decode cX1_build 52 = .ok (.iconst 1, 1) := by decide +kernel
theorem dX1_build_53 : decode cX1_build 53 = .ok (.iadd, 1) := by decide +kernel
theorem dX1_build_54 : decode cX1_build 54 = .ok (.putfield 111, 3) := by decide +kernel
theorem dX1_build_57 : decode cX1_build 57 = .ok (.iinc 1 1, 3) := by decide +kernel
theorem dX1_build_60 : decode cX1_build 60 = .ok (.goto (-44), 3) := by decide +kernel
theorem dX1_build_63 : decode cX1_build 63 = .ok (.aload_n 0, 1) := by decide +kernel
theorem dX1_build_64 : decode cX1_build 64 = .ok (.getfield 12, 3) := by decide +kernel
theorem dX1_build_67 : decode cX1_build 67 = .ok (.aload_n 0, 1) := by decide +kernel
theorem dX1_build_68 : decode cX1_build 68 = .ok (.getfield 32, 3) := by decide +kernel
theorem dX1_build_71 : decode cX1_build 71 = .ok (.invokevirtual 202, 3) := by decide +kernel
theorem dX1_build_74 : decode cX1_build 74 = .ok (.aload_n 0, 1) := by decide +kernel
theorem dX1_build_75 : decode cX1_build 75 = .ok (.aload_n 0, 1) := by decide +kernel
theorem dX1_build_76 : decode cX1_build 76 = .ok (.getfield 108, 3) := by decide +kernel
theorem dX1_build_79 : decode cX1_build 79 = .ok (.aload_n 0, 1) := by decide +kernel
theorem dX1_build_80 : decode cX1_build 80 = .ok (.getfield 111, 3) := by decide +kernel
theorem dX1_build_83 : decode cX1_build 83 = .ok (.iadd, 1) := by decide +kernel
theorem dX1_build_84 : decode cX1_build 84 = .ok (.putfield 114, 3) := by decide +kernel
theorem dX1_build_87 : decode cX1_build 87 = .ok (.return_, 1) := by decide +kernel
abbrev M_X1_build : mM := (cX1_build, 2, RX1, none, false, 4, 126, 0, 0)
theorem gX1_build : cI yX1_build M_X1_build 0 := ⟨(wsl_36 _ (List.mem_of_getElem? (i := 21) rfl)), (wsl_36 _ (List.mem_of_getElem? (i := 22) rfl)), (wsl_2 _ (List.mem_of_getElem? (i := 19) rfl)), (wsl_36 _ (List.mem_of_getElem? (i := 23) rfl)), by decide +kernel⟩
noncomputable def fX1_build_s16 (h0 : hH) (a0 : Int) : hH × Int → Option ((hH × Int) ⊕ (hH)) := fun (h, l1) =>
  if l1 < h (h a0 2) 0 then
    (fX11_at h (h a0 13) l1).bind fun r32 =>
    if r32 = -1 then
      (fX1_changeRow h a0 l1).bind fun q41 =>
      if q41.1 = 0 then
        some (.inl (q41.2, w32 (l1 + 1)))
      else
        (pput q41.2 a0 8 (w32 ((q41.2 a0 8) + 1))).bind fun h54 =>
        some (.inl (h54, w32 (l1 + 1)))
    else
      some (.inl (h, w32 (l1 + 1)))
  else
    (fX3_keepOnly h (h a0 2) (h a0 13)).bind fun h71 =>
    (pput h71 a0 9 (w32 ((h71 a0 7) + (h71 a0 8)))).bind fun h84 =>
    some (.inr (h84))
noncomputable def fX1_build (h : hH) (a0 : Int) : Option (hH) :=
  (fX3_copyFrom h (h a0 2) (h (h a0 1) 0)).bind fun h11 =>
  lpO (fX1_build_s16 h11 a0) (h11, 0)
section M_X1_build
variable {p : Program} {l : Launch} {e : Env} {R : Room} {s : State} {m : MethodId} {args : Array Value} {below : List Frame} {meth : Method} {c : Code} {D : va_G} {G : gG} {A : Nat → Prop} {H0 : Heap} {n0 : Int} {x : Option vV × hH} {h : hH}
set_option maxRecDepth 100000 in
set_option maxHeartbeats 4000000 in
theorem oX1_build_s16 {h0 : hH} {a0 l1 : Int} {K : (hH × Int) ⊕ (hH) → Prop} (k0 : ∀ r, K (.inr (r)) → x = (none, r)) (k1 : ∀ (h : hH) (l1 : Int), K (.inl (h, l1)) → Wq p l e R s m args below meth c D G A H0 true n0 M_X1_build x 0 0 16 [(0, (11, a0)), (1, (0, l1))] [] h) {r : (hH × Int) ⊕ (hH)} (hr : fX1_build_s16 h0 a0 (h, l1) = some r) (hk : K r) : Wq p l e R s m args below meth c D G A H0 true n0 M_X1_build x 0 0 16 [(0, (11, a0)), (1, (0, l1))] [] h := by
  unfold fX1_build_s16 at hr
  refine r_iload_n dX1_build_16 rfl 1 rfl (Or.inl rfl) ?_
  refine r_aload_n dX1_build_17 rfl 0 rfl (nl rfl) ?_
  refine r_get 1 2 (o := a0) (w := (13, h a0 2)) (T := TX1) (ref := "FollowingRefs$Judge") rfl (by decide) rfl (by decide) inlX1 (wsl_5 _ (List.mem_of_getElem? (i := 21) rfl)) rfl dX1_build_18 rfl ?_
  refine r_get 3 0 (o := h a0 2) (w := (0, h (h a0 2) 0)) (T := TX3) (ref := "FollowingRefs$Rows") rfl (by decide) rfl (by decide) inlX3 (wsl_33 _ (List.mem_of_getElem? (i := 20) rfl)) rfl dX1_build_21 rfl ?_
  refine r_icmp_ge dX1_build_24 (tgt := 63) (by decide) (fun hc => ?_) (fun hc => ?_)
  · have hr := ifn hr hc
    refine r_aload_n dX1_build_63 rfl 0 rfl (nl rfl) ?_
    refine r_get 1 2 (o := a0) (w := (13, h a0 2)) (T := TX1) (ref := "FollowingRefs$Judge") rfl (by decide) rfl (by decide) inlX1 (wsl_5 _ (List.mem_of_getElem? (i := 21) rfl)) rfl dX1_build_64 rfl ?_
    refine r_aload_n dX1_build_67 rfl 0 rfl (nl rfl) ?_
    refine r_get 1 13 (o := a0) (w := (50, h a0 13)) (T := TX1) (ref := "FollowingRefs$Judge") rfl (by decide) rfl (by decide) inlX1 (wsl_6 _ (List.mem_of_getElem? (i := 4) rfl)) rfl dX1_build_68 rfl ?_
    obtain ⟨h71, hg71, hr⟩ := bnd hr
    refine k_V (ci := 3) (o := h a0 2) (T := TX3) (as := [(50, h a0 13)]) (rest := []) (X := (none, h71)) (oX3_keepOnly hg71) gX3_keepOnly rfl (by decide) rfl (wsl_37 _ (List.mem_of_getElem? (i := 5) rfl)) rfl dX1_build_71 rfl ?_
    refine r_aload_n dX1_build_74 rfl 0 rfl (nl rfl) ?_
    refine r_aload_n dX1_build_75 rfl 0 rfl (nl rfl) ?_
    refine r_get 1 7 (o := a0) (w := (0, h71 a0 7)) (T := TX1) (ref := "FollowingRefs$Judge") rfl (by decide) rfl (by decide) inlX1 (wsl_32 _ (List.mem_of_getElem? (i := 8) rfl)) rfl dX1_build_76 rfl ?_
    refine r_aload_n dX1_build_79 rfl 0 rfl (nl rfl) ?_
    refine r_get 1 8 (o := a0) (w := (0, h71 a0 8)) (T := TX1) (ref := "FollowingRefs$Judge") rfl (by decide) rfl (by decide) inlX1 (wsl_32 _ (List.mem_of_getElem? (i := 9) rfl)) rfl dX1_build_80 rfl ?_
    refine r_iadd dX1_build_83 ?_
    obtain ⟨h84, hg84, hr⟩ := bnd hr
    refine r_put' 1 9 (t := 0) (ref := "FollowingRefs$Judge") hg84 rfl tyX1 tyX1_ok nmX1 rfl (by decide) rfl (by decide) inlX1 (wsl_32 _ (List.mem_of_getElem? (i := 10) rfl)) rfl rfl (by decide +kernel) (by decide) rfl (Or.inl ⟨rfl, rfl⟩) dX1_build_84 ?_
    obtain rfl := Option.some.inj hr
    exact r_vret dX1_build_87 rfl (k0 _ hk) ⟨rfl, rfl⟩
  · have hr := ifp hr hc
    refine r_aload_n dX1_build_27 rfl 0 rfl (nl rfl) ?_
    refine r_get 1 13 (o := a0) (w := (50, h a0 13)) (T := TX1) (ref := "FollowingRefs$Judge") rfl (by decide) rfl (by decide) inlX1 (wsl_6 _ (List.mem_of_getElem? (i := 4) rfl)) rfl dX1_build_28 rfl ?_
    refine r_iload_n dX1_build_31 rfl 1 rfl (Or.inl rfl) ?_
    obtain ⟨r32, hg32, hr⟩ := bnd hr
    refine k_SN (host := "FollowingRefs") (as := [(50, h a0 13), (0, l1)]) (rest := []) (X := (some (0, r32), h)) (oX11_at hg32) gX11_at rfl (List.mem_of_getElem? (i := 6) rfl) rfl dX1_build_32 rfl ?_
    refine r_iconst dX1_build_35 (by decide) ?_
    refine r_icmp_ne dX1_build_36 (tgt := 57) (by decide) (fun hc => ?_) (fun hc => ?_)
    · have hr := ifn hr hc
      refine r_iinc (k := 1) (v := l1) dX1_build_57 rfl (by decide) (lv' := [(1, (0, w32 (l1 + 1))), (0, (11, a0))]) rfl ?_
      refine r_goto dX1_build_60 (tgt := 16) (by decide) ?_
      refine r_sub [1, 0] (lv' := [(0, (11, a0)), (1, (0, w32 (l1 + 1)))]) rfl ?_
      obtain rfl := Option.some.inj hr
      exact k1 _ _ hk
    · have hr := ifp hr hc
      refine r_aload_n dX1_build_39 rfl 0 rfl (nl rfl) ?_
      refine r_iload_n dX1_build_40 rfl 1 rfl (Or.inl rfl) ?_
      obtain ⟨q41, hg41, hr⟩ := bnd hr
      refine k_V (ci := 1) (o := a0) (T := TX1) (as := [(0, l1)]) (rest := []) (X := (some (2, q41.1), q41.2)) (oX1_changeRow hg41) gX1_changeRow rfl (by decide) rfl (wsl_37 _ (List.mem_of_getElem? (i := 0) rfl)) rfl dX1_build_41 rfl ?_
      refine r_scast 0 (v := (2, q41.1)) (w := (0, q41.1)) rfl zc hTz (st' := [(0, q41.1)]) rfl ?_
      refine r_if_eq dX1_build_44 (tgt := 57) (by decide) (fun hc => ?_) (fun hc => ?_)
      · have hr := ifp hr hc
        refine r_iinc (k := 1) (v := l1) dX1_build_57 rfl (by decide) (lv' := [(1, (0, w32 (l1 + 1))), (0, (11, a0))]) rfl ?_
        refine r_goto dX1_build_60 (tgt := 16) (by decide) ?_
        refine r_sub [1, 0] (lv' := [(0, (11, a0)), (1, (0, w32 (l1 + 1)))]) rfl ?_
        obtain rfl := Option.some.inj hr
        exact k1 _ _ hk
      · have hr := ifn hr hc
        refine r_aload_n dX1_build_47 rfl 0 rfl (nl rfl) ?_
        refine r_dup dX1_build_48 (Nat.ne_of_beq_eq_false rfl) ?_
        refine r_get 1 8 (o := a0) (w := (0, q41.2 a0 8)) (T := TX1) (ref := "FollowingRefs$Judge") rfl (by decide) rfl (by decide) inlX1 (wsl_32 _ (List.mem_of_getElem? (i := 9) rfl)) rfl dX1_build_49 rfl ?_
        refine r_iconst dX1_build_52 (by decide) ?_
        refine r_iadd dX1_build_53 ?_
        obtain ⟨h54, hg54, hr⟩ := bnd hr
        refine r_put' 1 8 (t := 0) (ref := "FollowingRefs$Judge") hg54 rfl tyX1 tyX1_ok nmX1 rfl (by decide) rfl (by decide) inlX1 (wsl_32 _ (List.mem_of_getElem? (i := 9) rfl)) rfl rfl (by decide +kernel) (by decide) rfl (Or.inl ⟨rfl, rfl⟩) dX1_build_54 ?_
        refine r_iinc (k := 1) (v := l1) dX1_build_57 rfl (by decide) (lv' := [(1, (0, w32 (l1 + 1))), (0, (11, a0))]) rfl ?_
        refine r_goto dX1_build_60 (tgt := 16) (by decide) ?_
        refine r_sub [1, 0] (lv' := [(0, (11, a0)), (1, (0, w32 (l1 + 1)))]) rfl ?_
        obtain rfl := Option.some.inj hr
        exact k1 _ _ hk
set_option maxRecDepth 100000 in
set_option maxHeartbeats 4000000 in
theorem oX1_build_b0 {a0 : Int} {K : hH → Prop} (k0 : ∀ r, K (r) → x = (none, r)) {r : hH} (hr : fX1_build h a0 = some r) (hk : K r) : Wq p l e R s m args below meth c D G A H0 true n0 M_X1_build x 0 0 0 [(0, (11, a0))] [] h := by
  unfold fX1_build at hr
  refine r_aload_n dX1_build_0 rfl 0 rfl (nl rfl) ?_
  refine r_get 1 2 (o := a0) (w := (13, h a0 2)) (T := TX1) (ref := "FollowingRefs$Judge") rfl (by decide) rfl (by decide) inlX1 (wsl_5 _ (List.mem_of_getElem? (i := 21) rfl)) rfl dX1_build_1 rfl ?_
  refine r_aload_n dX1_build_4 rfl 0 rfl (nl rfl) ?_
  refine r_get 1 1 (o := a0) (w := (18, h a0 1)) (T := TX1) (ref := "FollowingRefs$Judge") rfl (by decide) rfl (by decide) inlX1 (wsl_6 _ (List.mem_of_getElem? (i := 9) rfl)) rfl dX1_build_5 rfl ?_
  refine r_get 8 0 (o := h a0 1) (w := (13, h (h a0 1) 0)) (T := TX8) (ref := "FollowingRefs$State") rfl (by decide) rfl (by decide) inlX8 (wsl_32 _ (List.mem_of_getElem? (i := 22) rfl)) rfl dX1_build_8 rfl ?_
  obtain ⟨h11, hg11, hr⟩ := bnd hr
  refine k_V (ci := 3) (o := h a0 2) (T := TX3) (as := [(13, h (h a0 1) 0)]) (rest := []) (X := (none, h11)) (oX3_copyFrom hg11) gX3_copyFrom rfl (by decide) rfl (wsl_33 _ (List.mem_of_getElem? (i := 3) rfl)) rfl dX1_build_11 rfl ?_
  refine r_iconst dX1_build_14 (by decide) ?_
  refine r_istore_n dX1_build_15 rfl (Or.inl rfl) (by decide) (lv' := [(1, (0, 0)), (0, (11, a0))]) rfl ?_
  refine r_sub [1, 0] (lv' := [(0, (11, a0)), (1, (0, 0))]) rfl ?_
  exact lp_ok (w := fun (q : hH × Int) => Wq p l e R s m args below meth c D G A H0 true n0 M_X1_build x 0 0 16 [(0, (11, a0)), (1, (0, q.2))] [] (q.1)) (K := K) (fun ⟨q0, q1⟩ r h1 h2 => oX1_build_s16 (K := Sum.elim (fun (q : hH × Int) => Wq p l e R s m args below meth c D G A H0 true n0 M_X1_build x 0 0 16 [(0, (11, a0)), (1, (0, q.2))] [] (q.1)) (K)) (fun r z => k0 r z) (fun _ _ z => z) h1 h2) hr hk
end M_X1_build
theorem oX1_build {l : Launch} {D : va_G} {G : gG} {h : hH} {a0 : Int} {r : hH} (hr : fX1_build h a0 = some r) : Ctr l D G true yX1_build M_X1_build [(11, a0)] h (none, r) :=
  Ctr_of (by decide) rfl (fun z => by cases z) (nl rfl) (fun {p e R s m args below meth c A H0} => by
    exact oX1_build_b0 (K := fun z9 => z9 = r) (fun r9 z => by rw [z]) hr rfl)
/-! X4_needTold -/
theorem dX4_needTold_0 : decode cX4_needTold 0 = .ok (.aload_n 0, 1) := by decide +kernel
theorem dX4_needTold_1 : decode cX4_needTold 1 = .ok (.getfield 25, 3) := by decide +kernel
theorem dX4_needTold_4 : decode cX4_needTold 4 = .ok (.iload_n 1, 1) := by decide +kernel
theorem dX4_needTold_5 : decode cX4_needTold 5 = .ok (.iconst 4, 1) := by decide +kernel
theorem dX4_needTold_6 : decode cX4_needTold 6 = .ok (.imul, 1) := by decide +kernel
theorem dX4_needTold_7 : decode cX4_needTold 7 = .ok (.iload_n 2, 1) := by decide +kernel
theorem dX4_needTold_8 : decode cX4_needTold 8 = .ok (.iadd, 1) := by decide +kernel
theorem dX4_needTold_9 : decode cX4_needTold 9 = .ok (.invokestatic 80, 3) := by decide +kernel
theorem dX4_needTold_12 : decode cX4_needTold 12 = .ok (.iconst 1, 1) := by decide +kernel
theorem dX4_needTold_13 : decode cX4_needTold 13 = .ok (.if_icmp .ne 7, 3) := by decide +kernel
theorem dX4_needTold_16 : decode cX4_needTold 16 = .ok (.iconst 1, 1) := by decide +kernel
theorem dX4_needTold_17 : decode cX4_needTold 17 = .ok (.goto 4, 3) := by decide +kernel
theorem dX4_needTold_20 : decode cX4_needTold 20 = .ok (.iconst 0, 1) := by decide +kernel
theorem dX4_needTold_21 : decode cX4_needTold 21 = .ok (.ireturn, 1) := by decide +kernel
abbrev M_X4_needTold : mM := (cX4_needTold, 3, RX4, some .boolean, false, 1, 21, 0, 0)
theorem gX4_needTold : cI yX4_needTold M_X4_needTold 2 := ⟨(wsl_21 _ (List.mem_of_getElem? (i := 13) rfl)), (wsl_21 _ (List.mem_of_getElem? (i := 14) rfl)), (wsl_1 _ (List.mem_of_getElem? (i := 19) rfl)), (wsl_21 _ (List.mem_of_getElem? (i := 15) rfl)), by decide +kernel⟩
noncomputable def fX4_needTold (h : hH) (a0 a1 a2 : Int) : Option (Int) :=
  (fX11_at h (h a0 8) (w32 ((w32 (a1 * 4)) + a2))).bind fun r9 =>
  if r9 = 1 then
    some 1
  else
    some 0
section M_X4_needTold
variable {p : Program} {l : Launch} {e : Env} {R : Room} {s : State} {m : MethodId} {args : Array Value} {below : List Frame} {meth : Method} {c : Code} {D : va_G} {G : gG} {A : Nat → Prop} {H0 : Heap} {n0 : Int} {x : Option vV × hH} {h : hH}
set_option maxRecDepth 100000 in
set_option maxHeartbeats 4000000 in
theorem oX4_needTold_b0 {a0 a1 a2 : Int} {K : Int → Prop} (k0 : ∀ r, K (r) → x = (some (2, r), h)) {r : Int} (hr : fX4_needTold h a0 a1 a2 = some r) (hk : K r) : Wq p l e R s m args below meth c D G A H0 true n0 M_X4_needTold x 0 0 0 [(0, (14, a0)), (1, (0, a1)), (2, (0, a2))] [] h := by
  unfold fX4_needTold at hr
  refine r_aload_n dX4_needTold_0 rfl 0 rfl (nl rfl) ?_
  refine r_get 4 8 (o := a0) (w := (50, h a0 8)) (T := TX4) (ref := "FollowingRefs$Schema") rfl (by decide) rfl (by decide) inlX4 (wsl_3 _ (List.mem_of_getElem? (i := 20) rfl)) rfl dX4_needTold_1 rfl ?_
  refine r_iload_n dX4_needTold_4 rfl 1 rfl (Or.inl rfl) ?_
  refine r_iconst dX4_needTold_5 (by decide) ?_
  refine r_imul dX4_needTold_6 ?_
  refine r_iload_n dX4_needTold_7 rfl 2 rfl (Or.inl rfl) ?_
  refine r_iadd dX4_needTold_8 ?_
  obtain ⟨r9, hg9, hr⟩ := bnd hr
  refine k_SN (host := "FollowingRefs") (as := [(50, h a0 8), (0, w32 ((w32 (a1 * 4)) + a2))]) (rest := []) (X := (some (0, r9), h)) (oX11_at hg9) gX11_at rfl (List.mem_of_getElem? (i := 24) rfl) rfl dX4_needTold_9 rfl ?_
  refine r_iconst dX4_needTold_12 (by decide) ?_
  refine r_icmp_ne dX4_needTold_13 (tgt := 20) (by decide) (fun hc => ?_) (fun hc => ?_)
  · have hr := ifn hr hc
    refine r_iconst dX4_needTold_20 (by decide) ?_
    refine r_scast 0 (v := (0, 0)) (w := (2, 0)) rfl cz (fun _ => Or.inl rfl) (st' := [(2, 0)]) rfl ?_
    obtain rfl := Option.some.inj hr
    exact r_ret dX4_needTold_21 rfl (Or.inr ⟨rfl, rfl⟩) (k0 _ hk) ⟨rfl, rfl⟩
  · have hr := ifp hr hc
    refine r_iconst dX4_needTold_16 (by decide) ?_
    refine r_goto dX4_needTold_17 (tgt := 21) (by decide) ?_
    refine r_scast 0 (v := (0, 1)) (w := (2, 1)) rfl cz (fun _ => Or.inr rfl) (st' := [(2, 1)]) rfl ?_
    obtain rfl := Option.some.inj hr
    exact r_ret dX4_needTold_21 rfl (Or.inr ⟨rfl, rfl⟩) (k0 _ hk) ⟨rfl, rfl⟩
end M_X4_needTold
theorem oX4_needTold {l : Launch} {D : va_G} {G : gG} {h : hH} {a0 a1 a2 : Int} {r : Int} (hr : fX4_needTold h a0 a1 a2 = some r) : Ctr l D G true yX4_needTold M_X4_needTold [(14, a0), (0, a1), (0, a2)] h (some (2, r), h) :=
  Ctr_of (by decide) rfl (fun z => by cases z) (nl rfl) (fun {p e R s m args below meth c A H0} => by
    exact oX4_needTold_b0 (K := fun z9 => z9 = r) (fun r9 z => by rw [z]) hr rfl)
/-! X4_keysWith -/
theorem dX4_keysWith_0 : decode cX4_keysWith 0 = .ok (.iconst 0, 1) := by decide +kernel
theorem dX4_keysWith_1 : decode cX4_keysWith 1 = .ok (.istore_n 3, 1) := by decide +kernel
theorem dX4_keysWith_2 : decode cX4_keysWith 2 = .ok (.iconst 0, 1) := by decide +kernel
theorem dX4_keysWith_3 : decode cX4_keysWith 3 = .ok (.istore 4, 2) := by decide +kernel
theorem dX4_keysWith_5 : decode cX4_keysWith 5 = .ok (.iload 4, 2) := by decide +kernel
theorem dX4_keysWith_7 : decode cX4_keysWith 7 = .ok (.aload_n 0, 1) := by decide +kernel
theorem dX4_keysWith_8 : decode cX4_keysWith 8 = .ok (.getfield 41, 3) := by decide +kernel
theorem dX4_keysWith_11 : decode cX4_keysWith 11 = .ok (.if_icmp .ge 49, 3) := by decide +kernel
theorem dX4_keysWith_14 : decode cX4_keysWith 14 = .ok (.aload_n 0, 1) := by decide +kernel
theorem dX4_keysWith_15 : decode cX4_keysWith 15 = .ok (.iload 4, 2) := by decide +kernel
theorem dX4_keysWith_17 : decode cX4_keysWith 17 = .ok (.iconst 0, 1) := by decide +kernel
theorem dX4_keysWith_18 : decode cX4_keysWith 18 = .ok (.invokevirtual 91, 3) := by decide +kernel
theorem dX4_keysWith_21 : decode cX4_keysWith 21 = .ok (.iload_n 1, 1) := by decide +kernel
theorem dX4_keysWith_22 : decode cX4_keysWith 22 = .ok (.if_icmp .ne 32, 3) := by decide +kernel
theorem dX4_keysWith_25 : decode cX4_keysWith 25 = .ok (.aload_n 0, 1) := by decide +kernel
theorem dX4_keysWith_26 : decode cX4_keysWith 26 = .ok (.iload 4, 2) := by decide +kernel
theorem dX4_keysWith_28 : decode cX4_keysWith 28 = .ok (.iconst 1, 1) := by decide +kernel
theorem dX4_keysWith_29 : decode cX4_keysWith 29 = .ok (.invokevirtual 91, 3) := by decide +kernel
theorem dX4_keysWith_32 : decode cX4_keysWith 32 = .ok (.iload_n 2, 1) := by decide +kernel
theorem dX4_keysWith_33 : decode cX4_keysWith 33 = .ok (.if_icmp .eq 14, 3) := by decide +kernel
theorem dX4_keysWith_36 : decode cX4_keysWith 36 = .ok (.aload_n 0, 1) := by decide +kernel
theorem dX4_keysWith_37 : decode cX4_keysWith 37 = .ok (.iload 4, 2) := by decide +kernel
theorem dX4_keysWith_39 : decode cX4_keysWith 39 = .ok (.iconst 2, 1) := by decide +kernel
theorem dX4_keysWith_40 : decode cX4_keysWith 40 = .ok (.invokevirtual 91, 3) := by decide +kernel
theorem dX4_keysWith_43 : decode cX4_keysWith 43 = .ok (.iload_n 2, 1) := by decide +kernel
theorem dX4_keysWith_44 : decode cX4_keysWith 44 = .ok (.if_icmp .ne 10, 3) := by decide +kernel
theorem dX4_keysWith_47 : decode cX4_keysWith 47 = .ok (.iload_n 3, 1) := by decide +kernel
theorem dX4_keysWith_48 : decode cX4_keysWith 48 = .ok (.iconst 1, 1) := by decide +kernel
theorem dX4_keysWith_49 : decode cX4_keysWith 49 = .ok (.iload 4, 2) := by decide +kernel
theorem dX4_keysWith_51 : decode cX4_keysWith 51 = .ok (.ishl, 1) := by decide +kernel
theorem dX4_keysWith_52 : decode cX4_keysWith 52 = .ok (.ior, 1) := by decide +kernel
theorem dX4_keysWith_53 : decode cX4_keysWith 53 = .ok (.istore_n 3, 1) := by decide +kernel
theorem dX4_keysWith_54 : decode cX4_keysWith 54 = .ok (.iinc 4 1, 3) := by decide +kernel
theorem dX4_keysWith_57 : decode cX4_keysWith 57 = .ok (.goto (-52), 3) := by decide +kernel
theorem dX4_keysWith_60 : decode cX4_keysWith 60 = .ok (.iload_n 3, 1) := by decide +kernel
theorem dX4_keysWith_61 : decode cX4_keysWith 61 = .ok (.ireturn, 1) := by decide +kernel
abbrev M_X4_keysWith : mM := (cX4_keysWith, 5, RX4, some .int, false, 2, 43, 0, 0)
theorem gX4_keysWith : cI yX4_keysWith M_X4_keysWith 2 := ⟨(wsl_38 _ (List.mem_of_getElem? (i := 0) rfl)), (wsl_38 _ (List.mem_of_getElem? (i := 1) rfl)), (wsl_1 _ (List.mem_of_getElem? (i := 19) rfl)), (wsl_38 _ (List.mem_of_getElem? (i := 2) rfl)), by decide +kernel⟩
noncomputable def fX4_keysWith_b47 (h : hH) (a0 a1 a2 l3 l4 : Int) : Option ((Int × Int) ⊕ (Int)) :=
  some (.inl (iorD l3 (ishD 1 l4), w32 (l4 + 1)))
noncomputable def fX4_keysWith_s5 (h : hH) (a0 a1 a2 : Int) : Int × Int → Option ((Int × Int) ⊕ (Int)) := fun (l3, l4) =>
  if l4 < h a0 1 then
    (fX4_keyPart h a0 l4 0).bind fun r18 =>
    if r18 = a1 then
      (fX4_keyPart h a0 l4 1).bind fun r29 =>
      if r29 = a2 then
        fX4_keysWith_b47 h a0 a1 a2 l3 l4
      else
        (fX4_keyPart h a0 l4 2).bind fun r40 =>
        if r40 = a2 then
          fX4_keysWith_b47 h a0 a1 a2 l3 l4
        else
          some (.inl (l3, w32 (l4 + 1)))
    else
      some (.inl (l3, w32 (l4 + 1)))
  else
    some (.inr (l3))
noncomputable def fX4_keysWith (h : hH) (a0 a1 a2 : Int) : Option (Int) :=
  lpO (fX4_keysWith_s5 h a0 a1 a2) (0, 0)
section M_X4_keysWith
variable {p : Program} {l : Launch} {e : Env} {R : Room} {s : State} {m : MethodId} {args : Array Value} {below : List Frame} {meth : Method} {c : Code} {D : va_G} {G : gG} {A : Nat → Prop} {H0 : Heap} {n0 : Int} {x : Option vV × hH} {h : hH}
set_option maxRecDepth 100000 in
set_option maxHeartbeats 4000000 in
theorem oX4_keysWith_b47 {a0 a1 a2 l3 l4 : Int} {K : (Int × Int) ⊕ (Int) → Prop} (k0 : ∀ r, K (.inr (r)) → x = (some (0, r), h)) (k1 : ∀ (l3 : Int) (l4 : Int), K (.inl (l3, l4)) → Wq p l e R s m args below meth c D G A H0 true n0 M_X4_keysWith x 0 0 5 [(0, (14, a0)), (1, (0, a1)), (2, (0, a2)), (3, (0, l3)), (4, (0, l4))] [] h) {r : (Int × Int) ⊕ (Int)} (hr : fX4_keysWith_b47 h a0 a1 a2 l3 l4 = some r) (hk : K r) : Wq p l e R s m args below meth c D G A H0 true n0 M_X4_keysWith x 0 0 47 [(0, (14, a0)), (1, (0, a1)), (2, (0, a2)), (3, (0, l3)), (4, (0, l4))] [] h := by
  unfold fX4_keysWith_b47 at hr
  refine r_iload_n dX4_keysWith_47 rfl 3 rfl (Or.inl rfl) ?_
  refine r_iconst dX4_keysWith_48 (by decide) ?_
  refine r_iload dX4_keysWith_49 4 rfl (Or.inl rfl) ?_
  refine r_ishl dX4_keysWith_51 ?_
  refine r_ior dX4_keysWith_52 ?_
  refine r_istore_n dX4_keysWith_53 rfl (Or.inl rfl) (by decide) (lv' := [(3, (0, iorD l3 (ishD 1 l4))), (0, (14, a0)), (1, (0, a1)), (2, (0, a2)), (4, (0, l4))]) rfl ?_
  refine r_iinc (k := 4) (v := l4) dX4_keysWith_54 rfl (by decide) (lv' := [(4, (0, w32 (l4 + 1))), (3, (0, iorD l3 (ishD 1 l4))), (0, (14, a0)), (1, (0, a1)), (2, (0, a2))]) rfl ?_
  refine r_goto dX4_keysWith_57 (tgt := 5) (by decide) ?_
  refine r_sub [2, 3, 4, 1, 0] (lv' := [(0, (14, a0)), (1, (0, a1)), (2, (0, a2)), (3, (0, iorD l3 (ishD 1 l4))), (4, (0, w32 (l4 + 1)))]) rfl ?_
  obtain rfl := Option.some.inj hr
  exact k1 _ _ hk
set_option maxRecDepth 100000 in
set_option maxHeartbeats 4000000 in
theorem oX4_keysWith_s5 {a0 a1 a2 l3 l4 : Int} {K : (Int × Int) ⊕ (Int) → Prop} (k0 : ∀ r, K (.inr (r)) → x = (some (0, r), h)) (k1 : ∀ (l3 : Int) (l4 : Int), K (.inl (l3, l4)) → Wq p l e R s m args below meth c D G A H0 true n0 M_X4_keysWith x 0 0 5 [(0, (14, a0)), (1, (0, a1)), (2, (0, a2)), (3, (0, l3)), (4, (0, l4))] [] h) {r : (Int × Int) ⊕ (Int)} (hr : fX4_keysWith_s5 h a0 a1 a2 (l3, l4) = some r) (hk : K r) : Wq p l e R s m args below meth c D G A H0 true n0 M_X4_keysWith x 0 0 5 [(0, (14, a0)), (1, (0, a1)), (2, (0, a2)), (3, (0, l3)), (4, (0, l4))] [] h := by
  unfold fX4_keysWith_s5 at hr
  refine r_iload dX4_keysWith_5 4 rfl (Or.inl rfl) ?_
  refine r_aload_n dX4_keysWith_7 rfl 0 rfl (nl rfl) ?_
  refine r_get 4 1 (o := a0) (w := (0, h a0 1)) (T := TX4) (ref := "FollowingRefs$Schema") rfl (by decide) rfl (by decide) inlX4 (wsl_11 _ (List.mem_of_getElem? (i := 20) rfl)) rfl dX4_keysWith_8 rfl ?_
  refine r_icmp_ge dX4_keysWith_11 (tgt := 60) (by decide) (fun hc => ?_) (fun hc => ?_)
  · have hr := ifn hr hc
    refine r_iload_n dX4_keysWith_60 rfl 3 rfl (Or.inl rfl) ?_
    obtain rfl := Option.some.inj hr
    exact r_ret dX4_keysWith_61 rfl (Or.inl ⟨rfl, rfl⟩) (k0 _ hk) ⟨rfl, rfl⟩
  · have hr := ifp hr hc
    refine r_aload_n dX4_keysWith_14 rfl 0 rfl (nl rfl) ?_
    refine r_iload dX4_keysWith_15 4 rfl (Or.inl rfl) ?_
    refine r_iconst dX4_keysWith_17 (by decide) ?_
    obtain ⟨r18, hg18, hr⟩ := bnd hr
    refine k_V (ci := 4) (o := a0) (T := TX4) (as := [(0, l4), (0, 0)]) (rest := []) (X := (some (0, r18), h)) (oX4_keyPart hg18) gX4_keyPart rfl (by decide) rfl (wsl_19 _ (List.mem_of_getElem? (i := 23) rfl)) rfl dX4_keysWith_18 rfl ?_
    refine r_iload_n dX4_keysWith_21 rfl 1 rfl (Or.inl rfl) ?_
    refine r_icmp_ne dX4_keysWith_22 (tgt := 54) (by decide) (fun hc => ?_) (fun hc => ?_)
    · have hr := ifn hr hc
      refine r_iinc (k := 4) (v := l4) dX4_keysWith_54 rfl (by decide) (lv' := [(4, (0, w32 (l4 + 1))), (0, (14, a0)), (1, (0, a1)), (2, (0, a2)), (3, (0, l3))]) rfl ?_
      refine r_goto dX4_keysWith_57 (tgt := 5) (by decide) ?_
      refine r_sub [1, 2, 3, 4, 0] (lv' := [(0, (14, a0)), (1, (0, a1)), (2, (0, a2)), (3, (0, l3)), (4, (0, w32 (l4 + 1)))]) rfl ?_
      obtain rfl := Option.some.inj hr
      exact k1 _ _ hk
    · have hr := ifp hr hc
      refine r_aload_n dX4_keysWith_25 rfl 0 rfl (nl rfl) ?_
      refine r_iload dX4_keysWith_26 4 rfl (Or.inl rfl) ?_
      refine r_iconst dX4_keysWith_28 (by decide) ?_
      obtain ⟨r29, hg29, hr⟩ := bnd hr
      refine k_V (ci := 4) (o := a0) (T := TX4) (as := [(0, l4), (0, 1)]) (rest := []) (X := (some (0, r29), h)) (oX4_keyPart hg29) gX4_keyPart rfl (by decide) rfl (wsl_19 _ (List.mem_of_getElem? (i := 23) rfl)) rfl dX4_keysWith_29 rfl ?_
      refine r_iload_n dX4_keysWith_32 rfl 2 rfl (Or.inl rfl) ?_
      refine r_icmp_eq dX4_keysWith_33 (tgt := 47) (by decide) (fun hc => ?_) (fun hc => ?_)
      · have hr := ifp hr hc
        exact oX4_keysWith_b47 (K := K) (fun r z => k0 r z) (fun _ _ z => k1 _ _ z) hr hk
      · have hr := ifn hr hc
        refine r_aload_n dX4_keysWith_36 rfl 0 rfl (nl rfl) ?_
        refine r_iload dX4_keysWith_37 4 rfl (Or.inl rfl) ?_
        refine r_iconst dX4_keysWith_39 (by decide) ?_
        obtain ⟨r40, hg40, hr⟩ := bnd hr
        refine k_V (ci := 4) (o := a0) (T := TX4) (as := [(0, l4), (0, 2)]) (rest := []) (X := (some (0, r40), h)) (oX4_keyPart hg40) gX4_keyPart rfl (by decide) rfl (wsl_19 _ (List.mem_of_getElem? (i := 23) rfl)) rfl dX4_keysWith_40 rfl ?_
        refine r_iload_n dX4_keysWith_43 rfl 2 rfl (Or.inl rfl) ?_
        refine r_icmp_ne dX4_keysWith_44 (tgt := 54) (by decide) (fun hc => ?_) (fun hc => ?_)
        · have hr := ifn hr hc
          refine r_iinc (k := 4) (v := l4) dX4_keysWith_54 rfl (by decide) (lv' := [(4, (0, w32 (l4 + 1))), (0, (14, a0)), (1, (0, a1)), (2, (0, a2)), (3, (0, l3))]) rfl ?_
          refine r_goto dX4_keysWith_57 (tgt := 5) (by decide) ?_
          refine r_sub [1, 2, 3, 4, 0] (lv' := [(0, (14, a0)), (1, (0, a1)), (2, (0, a2)), (3, (0, l3)), (4, (0, w32 (l4 + 1)))]) rfl ?_
          obtain rfl := Option.some.inj hr
          exact k1 _ _ hk
        · have hr := ifp hr hc
          exact oX4_keysWith_b47 (K := K) (fun r z => k0 r z) (fun _ _ z => k1 _ _ z) hr hk
set_option maxRecDepth 100000 in
set_option maxHeartbeats 4000000 in
theorem oX4_keysWith_b0 {a0 a1 a2 : Int} {K : Int → Prop} (k0 : ∀ r, K (r) → x = (some (0, r), h)) {r : Int} (hr : fX4_keysWith h a0 a1 a2 = some r) (hk : K r) : Wq p l e R s m args below meth c D G A H0 true n0 M_X4_keysWith x 0 0 0 [(0, (14, a0)), (1, (0, a1)), (2, (0, a2))] [] h := by
  unfold fX4_keysWith at hr
  refine r_iconst dX4_keysWith_0 (by decide) ?_
  refine r_istore_n dX4_keysWith_1 rfl (Or.inl rfl) (by decide) (lv' := [(3, (0, 0)), (0, (14, a0)), (1, (0, a1)), (2, (0, a2))]) rfl ?_
  refine r_iconst dX4_keysWith_2 (by decide) ?_
  refine r_istore dX4_keysWith_3 (Or.inl rfl) (by decide) (lv' := [(4, (0, 0)), (3, (0, 0)), (0, (14, a0)), (1, (0, a1)), (2, (0, a2))]) rfl ?_
  refine r_sub [2, 3, 4, 1, 0] (lv' := [(0, (14, a0)), (1, (0, a1)), (2, (0, a2)), (3, (0, 0)), (4, (0, 0))]) rfl ?_
  exact lp_ok (w := fun (q : Int × Int) => Wq p l e R s m args below meth c D G A H0 true n0 M_X4_keysWith x 0 0 5 [(0, (14, a0)), (1, (0, a1)), (2, (0, a2)), (3, (0, q.1)), (4, (0, q.2))] [] (h)) (K := K) (fun ⟨q0, q1⟩ r h1 h2 => oX4_keysWith_s5 (K := Sum.elim (fun (q : Int × Int) => Wq p l e R s m args below meth c D G A H0 true n0 M_X4_keysWith x 0 0 5 [(0, (14, a0)), (1, (0, a1)), (2, (0, a2)), (3, (0, q.1)), (4, (0, q.2))] [] (h)) (K)) (fun r z => k0 r z) (fun _ _ z => z) h1 h2) hr hk
end M_X4_keysWith
theorem oX4_keysWith {l : Launch} {D : va_G} {G : gG} {h : hH} {a0 a1 a2 : Int} {r : Int} (hr : fX4_keysWith h a0 a1 a2 = some r) : Ctr l D G true yX4_keysWith M_X4_keysWith [(14, a0), (0, a1), (0, a2)] h (some (0, r), h) :=
  Ctr_of (by decide) rfl (fun z => by cases z) (nl rfl) (fun {p e R s m args below meth c A H0} => by
    exact oX4_keysWith_b0 (K := fun z9 => z9 = r) (fun r9 z => by rw [z]) hr rfl)
/-! X4_needed -/
theorem dX4_needed_0 : decode cX4_needed 0 = .ok (.aload_n 0, 1) := by decide +kernel
theorem dX4_needed_1 : decode cX4_needed 1 = .ok (.iload_n 1, 1) := by decide +kernel
theorem dX4_needed_2 : decode cX4_needed 2 = .ok (.iload_n 2, 1) := by decide +kernel
theorem dX4_needed_3 : decode cX4_needed 3 = .ok (.invokevirtual 84, 3) := by decide +kernel
theorem dX4_needed_6 : decode cX4_needed 6 = .ok (.ifCond .ne 12, 3) := by decide +kernel
theorem dX4_needed_9 : decode cX4_needed 9 = .ok (.aload_n 0, 1) := by decide +kernel
theorem dX4_needed_10 : decode cX4_needed 10 = .ok (.iload_n 1, 1) := by decide +kernel
theorem dX4_needed_11 : decode cX4_needed 11 = .ok (.iload_n 2, 1) := by decide +kernel
theorem dX4_needed_12 : decode cX4_needed 12 = .ok (.invokevirtual 87, 3) := by decide +kernel
theorem dX4_needed_15 : decode cX4_needed 15 = .ok (.ifCond .eq 7, 3) := by decide +kernel
theorem dX4_needed_18 : decode cX4_needed 18 = .ok (.iconst 1, 1) := by decide +kernel
theorem dX4_needed_19 : decode cX4_needed 19 = .ok (.goto 4, 3) := by decide +kernel
theorem dX4_needed_22 : decode cX4_needed 22 = .ok (.iconst 0, 1) := by decide +kernel
theorem dX4_needed_23 : decode cX4_needed 23 = .ok (.ireturn, 1) := by decide +kernel
abbrev M_X4_needed : mM := (cX4_needed, 3, RX4, some .boolean, false, 3, 67, 0, 0)
theorem gX4_needed : cI yX4_needed M_X4_needed 2 := ⟨(wsl_37 _ (List.mem_of_getElem? (i := 19) rfl)), (wsl_37 _ (List.mem_of_getElem? (i := 20) rfl)), (wsl_1 _ (List.mem_of_getElem? (i := 19) rfl)), (wsl_37 _ (List.mem_of_getElem? (i := 21) rfl)), by decide +kernel⟩
noncomputable def fX4_needed_b18 (h : hH) : Option (Int) :=
  some 1
noncomputable def fX4_needed (h : hH) (a0 a1 a2 : Int) : Option (Int) :=
  (fX4_needTold h a0 a1 a2).bind fun r3 =>
  if r3 = 0 then
    (fX4_keysWith h a0 a1 a2).bind fun r12 =>
    if r12 = 0 then
      some 0
    else
      fX4_needed_b18 h
  else
    fX4_needed_b18 h
section M_X4_needed
variable {p : Program} {l : Launch} {e : Env} {R : Room} {s : State} {m : MethodId} {args : Array Value} {below : List Frame} {meth : Method} {c : Code} {D : va_G} {G : gG} {A : Nat → Prop} {H0 : Heap} {n0 : Int} {x : Option vV × hH} {h : hH}
set_option maxRecDepth 100000 in
set_option maxHeartbeats 4000000 in
theorem oX4_needed_b18 {K : Int → Prop} (k0 : ∀ r, K (r) → x = (some (2, r), h)) {r : Int} (hr : fX4_needed_b18 h  = some r) (hk : K r) : Wq p l e R s m args below meth c D G A H0 true n0 M_X4_needed x 0 0 18 [] [] h := by
  unfold fX4_needed_b18 at hr
  refine r_iconst dX4_needed_18 (by decide) ?_
  refine r_goto dX4_needed_19 (tgt := 23) (by decide) ?_
  refine r_scast 0 (v := (0, 1)) (w := (2, 1)) rfl cz (fun _ => Or.inr rfl) (st' := [(2, 1)]) rfl ?_
  obtain rfl := Option.some.inj hr
  exact r_ret dX4_needed_23 rfl (Or.inr ⟨rfl, rfl⟩) (k0 _ hk) ⟨rfl, rfl⟩
set_option maxRecDepth 100000 in
set_option maxHeartbeats 4000000 in
theorem oX4_needed_b0 {a0 a1 a2 : Int} {K : Int → Prop} (k0 : ∀ r, K (r) → x = (some (2, r), h)) {r : Int} (hr : fX4_needed h a0 a1 a2 = some r) (hk : K r) : Wq p l e R s m args below meth c D G A H0 true n0 M_X4_needed x 0 0 0 [(0, (14, a0)), (1, (0, a1)), (2, (0, a2))] [] h := by
  unfold fX4_needed at hr
  refine r_aload_n dX4_needed_0 rfl 0 rfl (nl rfl) ?_
  refine r_iload_n dX4_needed_1 rfl 1 rfl (Or.inl rfl) ?_
  refine r_iload_n dX4_needed_2 rfl 2 rfl (Or.inl rfl) ?_
  obtain ⟨r3, hg3, hr⟩ := bnd hr
  refine k_V (ci := 4) (o := a0) (T := TX4) (as := [(0, a1), (0, a2)]) (rest := []) (X := (some (2, r3), h)) (oX4_needTold hg3) gX4_needTold rfl (by decide) rfl (wsl_37 _ (List.mem_of_getElem? (i := 22) rfl)) rfl dX4_needed_3 rfl ?_
  refine r_scast 0 (v := (2, r3)) (w := (0, r3)) rfl zc hTz (st' := [(0, r3)]) rfl ?_
  refine r_if_ne dX4_needed_6 (tgt := 18) (by decide) (fun hc => ?_) (fun hc => ?_)
  · have hr := ifn hr hc
    refine r_sub [] (lv' := []) rfl ?_
    exact oX4_needed_b18 (K := K) (fun r z => k0 r z) hr hk
  · have hr := ifp hr hc
    refine r_aload_n dX4_needed_9 rfl 0 rfl (nl rfl) ?_
    refine r_iload_n dX4_needed_10 rfl 1 rfl (Or.inl rfl) ?_
    refine r_iload_n dX4_needed_11 rfl 2 rfl (Or.inl rfl) ?_
    obtain ⟨r12, hg12, hr⟩ := bnd hr
    refine k_V (ci := 4) (o := a0) (T := TX4) (as := [(0, a1), (0, a2)]) (rest := []) (X := (some (0, r12), h)) (oX4_keysWith hg12) gX4_keysWith rfl (by decide) rfl (wsl_37 _ (List.mem_of_getElem? (i := 23) rfl)) rfl dX4_needed_12 rfl ?_
    refine r_if_eq dX4_needed_15 (tgt := 22) (by decide) (fun hc => ?_) (fun hc => ?_)
    · have hr := ifp hr hc
      refine r_iconst dX4_needed_22 (by decide) ?_
      refine r_scast 0 (v := (0, 0)) (w := (2, 0)) rfl cz (fun _ => Or.inl rfl) (st' := [(2, 0)]) rfl ?_
      obtain rfl := Option.some.inj hr
      exact r_ret dX4_needed_23 rfl (Or.inr ⟨rfl, rfl⟩) (k0 _ hk) ⟨rfl, rfl⟩
    · have hr := ifn hr hc
      refine r_sub [] (lv' := []) rfl ?_
      exact oX4_needed_b18 (K := K) (fun r z => k0 r z) hr hk
end M_X4_needed
theorem oX4_needed {l : Launch} {D : va_G} {G : gG} {h : hH} {a0 a1 a2 : Int} {r : Int} (hr : fX4_needed h a0 a1 a2 = some r) : Ctr l D G true yX4_needed M_X4_needed [(14, a0), (0, a1), (0, a2)] h (some (2, r), h) :=
  Ctr_of (by decide) rfl (fun z => by cases z) (nl rfl) (fun {p e R s m args below meth c A H0} => by
    exact oX4_needed_b0 (K := fun z9 => z9 = r) (fun r9 z => by rw [z]) hr rfl)
/-! X10_add -/
theorem dX10_add_0 : decode cX10_add 0 = .ok (.aload_n 0, 1) := by decide +kernel
theorem dX10_add_1 : decode cX10_add 1 = .ok (.getfield 9, 3) := by decide +kernel
theorem dX10_add_4 : decode cX10_add 4 = .ok (.aload_n 0, 1) := by decide +kernel
theorem dX10_add_5 : decode cX10_add 5 = .ok (.getfield 15, 3) := by decide +kernel
theorem dX10_add_8 : decode cX10_add 8 = .ok (.iload_n 1, 1) := by decide +kernel
theorem dX10_add_9 : decode cX10_add 9 = .ok (.bipush 16, 2) := by decide +kernel
theorem dX10_add_11 : decode cX10_add 11 = .ok (.ishl, 1) := by decide +kernel
theorem dX10_add_12 : decode cX10_add 12 = .ok (.iload_n 2, 1) := by decide +kernel
theorem dX10_add_13 : decode cX10_add 13 = .ok (.bipush 8, 2) := by decide +kernel
theorem dX10_add_15 : decode cX10_add 15 = .ok (.ishl, 1) := by decide +kernel
theorem dX10_add_16 : decode cX10_add 16 = .ok (.ior, 1) := by decide +kernel
theorem dX10_add_17 : decode cX10_add 17 = .ok (.iload_n 3, 1) := by decide +kernel
theorem dX10_add_18 : decode cX10_add 18 = .ok (.ior, 1) := by decide +kernel
theorem dX10_add_19 : decode cX10_add 19 = .ok (.invokestatic 62, 3) := by decide +kernel
theorem dX10_add_22 : decode cX10_add 22 = .ok (.aload_n 0, 1) := by decide +kernel
theorem dX10_add_23 : decode cX10_add 23 = .ok (.getfield 15, 3) := by decide +kernel
theorem dX10_add_26 : decode cX10_add 26 = .ok (.aload_n 0, 1) := by decide +kernel
theorem dX10_add_27 : decode cX10_add 27 = .ok (.getfield 9, 3) := by decide +kernel
theorem dX10_add_30 : decode cX10_add 30 = .ok (.arraylength, 1) := by decide +kernel
theorem dX10_add_31 : decode cX10_add 31 = .ok (.if_icmp .ge 13, 3) := by decide +kernel
theorem dX10_add_34 : decode cX10_add 34 = .ok (.aload_n 0, 1) := by decide +kernel
theorem dX10_add_35 : decode cX10_add 35 = .ok (.dup, 1) := by decide +kernel
theorem dX10_add_36 : decode cX10_add 36 = .ok (.getfield 15, 3) := by decide +kernel
theorem dX10_add_39 : decode cX10_add 39 = .ok (.iconst 1, 1) := by decide +kernel
theorem dX10_add_40 : decode cX10_add 40 = .ok (.iadd, 1) := by decide +kernel
theorem dX10_add_41 : decode cX10_add 41 = .ok (.putfield 15, 3) := by decide +kernel
theorem dX10_add_44 : decode cX10_add 44 = .ok (.return_, 1) := by decide +kernel
abbrev M_X10_add : mM := (cX10_add, 4, RX10, none, false, 1, 22, 0, 0)
theorem gX10_add : cI yX10_add M_X10_add 3 := ⟨(wsl_38 _ (List.mem_of_getElem? (i := 12) rfl)), (wsl_38 _ (List.mem_of_getElem? (i := 13) rfl)), (wsl_6 _ (List.mem_of_getElem? (i := 0) rfl)), (wsl_38 _ (List.mem_of_getElem? (i := 14) rfl)), by decide +kernel⟩
noncomputable def fX10_add (h : hH) (a0 a1 a2 a3 : Int) : Option (hH) :=
  (fX11_put h (h a0 1) (h a0 0) (iorD (iorD (ishD a1 16) (ishD a2 8)) a3)).bind fun h19 =>
  if h19 a0 0 < h19 (h19 a0 1) (-1) then
    (pput h19 a0 0 (w32 ((h19 a0 0) + 1))).bind fun h41 =>
    some h41
  else
    some h19
section M_X10_add
variable {p : Program} {l : Launch} {e : Env} {R : Room} {s : State} {m : MethodId} {args : Array Value} {below : List Frame} {meth : Method} {c : Code} {D : va_G} {G : gG} {A : Nat → Prop} {H0 : Heap} {n0 : Int} {x : Option vV × hH} {h : hH}
set_option maxRecDepth 100000 in
set_option maxHeartbeats 4000000 in
theorem oX10_add_b0 {a0 a1 a2 a3 : Int} {K : hH → Prop} (k0 : ∀ r, K (r) → x = (none, r)) {r : hH} (hr : fX10_add h a0 a1 a2 a3 = some r) (hk : K r) : Wq p l e R s m args below meth c D G A H0 true n0 M_X10_add x 0 0 0 [(0, (20, a0)), (1, (0, a1)), (2, (0, a2)), (3, (0, a3))] [] h := by
  unfold fX10_add at hr
  refine r_aload_n dX10_add_0 rfl 0 rfl (nl rfl) ?_
  refine r_get 10 1 (o := a0) (w := (50, h a0 1)) (T := TX10) (ref := "FollowingRefs$Violations") rfl (by decide) rfl (by decide) inlX10 (wsl_6 _ (List.mem_of_getElem? (i := 13) rfl)) rfl dX10_add_1 rfl ?_
  refine r_aload_n dX10_add_4 rfl 0 rfl (nl rfl) ?_
  refine r_get 10 0 (o := a0) (w := (0, h a0 0)) (T := TX10) (ref := "FollowingRefs$Violations") rfl (by decide) rfl (by decide) inlX10 (wsl_32 _ (List.mem_of_getElem? (i := 15) rfl)) rfl dX10_add_5 rfl ?_
  refine r_iload_n dX10_add_8 rfl 1 rfl (Or.inl rfl) ?_
  refine r_bipush dX10_add_9 (by decide) (by decide) ?_
  refine r_ishl dX10_add_11 ?_
  refine r_iload_n dX10_add_12 rfl 2 rfl (Or.inl rfl) ?_
  refine r_bipush dX10_add_13 (by decide) (by decide) ?_
  refine r_ishl dX10_add_15 ?_
  refine r_ior dX10_add_16 ?_
  refine r_iload_n dX10_add_17 rfl 3 rfl (Or.inl rfl) ?_
  refine r_ior dX10_add_18 ?_
  obtain ⟨h19, hg19, hr⟩ := bnd hr
  refine k_SN (host := "FollowingRefs") (as := [(50, h a0 1), (0, h a0 0), (0, iorD (iorD (ishD a1 16) (ishD a2 8)) a3)]) (rest := []) (X := (none, h19)) (oX11_put hg19) gX11_put rfl (List.mem_of_getElem? (i := 7) rfl) rfl dX10_add_19 rfl ?_
  refine r_aload_n dX10_add_22 rfl 0 rfl (nl rfl) ?_
  refine r_get 10 0 (o := a0) (w := (0, h19 a0 0)) (T := TX10) (ref := "FollowingRefs$Violations") rfl (by decide) rfl (by decide) inlX10 (wsl_32 _ (List.mem_of_getElem? (i := 15) rfl)) rfl dX10_add_23 rfl ?_
  refine r_aload_n dX10_add_26 rfl 0 rfl (nl rfl) ?_
  refine r_get 10 1 (o := a0) (w := (50, h19 a0 1)) (T := TX10) (ref := "FollowingRefs$Violations") rfl (by decide) rfl (by decide) inlX10 (wsl_6 _ (List.mem_of_getElem? (i := 13) rfl)) rfl dX10_add_27 rfl ?_
  refine r_alen (t := 50) (by decide) (by decide) dX10_add_30 ?_
  refine r_icmp_ge dX10_add_31 (tgt := 44) (by decide) (fun hc => ?_) (fun hc => ?_)
  · have hr := ifn hr hc
    obtain rfl := Option.some.inj hr
    exact r_vret dX10_add_44 rfl (k0 _ hk) ⟨rfl, rfl⟩
  · have hr := ifp hr hc
    refine r_aload_n dX10_add_34 rfl 0 rfl (nl rfl) ?_
    refine r_dup dX10_add_35 (Nat.ne_of_beq_eq_false rfl) ?_
    refine r_get 10 0 (o := a0) (w := (0, h19 a0 0)) (T := TX10) (ref := "FollowingRefs$Violations") rfl (by decide) rfl (by decide) inlX10 (wsl_32 _ (List.mem_of_getElem? (i := 15) rfl)) rfl dX10_add_36 rfl ?_
    refine r_iconst dX10_add_39 (by decide) ?_
    refine r_iadd dX10_add_40 ?_
    obtain ⟨h41, hg41, hr⟩ := bnd hr
    refine r_put' 10 0 (t := 0) (ref := "FollowingRefs$Violations") hg41 rfl tyX10 tyX10_ok nmX10 rfl (by decide) rfl (by decide) inlX10 (wsl_32 _ (List.mem_of_getElem? (i := 15) rfl)) rfl rfl (by decide +kernel) (by decide) rfl (Or.inl ⟨rfl, rfl⟩) dX10_add_41 ?_
    obtain rfl := Option.some.inj hr
    exact r_vret dX10_add_44 rfl (k0 _ hk) ⟨rfl, rfl⟩
end M_X10_add
theorem oX10_add {l : Launch} {D : va_G} {G : gG} {h : hH} {a0 a1 a2 a3 : Int} {r : hH} (hr : fX10_add h a0 a1 a2 a3 = some r) : Ctr l D G true yX10_add M_X10_add [(20, a0), (0, a1), (0, a2), (0, a3)] h (none, r) :=
  Ctr_of (by decide) rfl (fun z => by cases z) (nl rfl) (fun {p e R s m args below meth c A H0} => by
    exact oX10_add_b0 (K := fun z9 => z9 = r) (fun r9 z => by rw [z]) hr rfl)
/-! X10_addNeeds -/
theorem dX10_addNeeds_0 : decode cX10_addNeeds 0 = .ok (.iconst 0, 1) := by decide +kernel
theorem dX10_addNeeds_1 : decode cX10_addNeeds 1 = .ok (.istore 4, 2) := by decide +kernel
theorem dX10_addNeeds_3 : decode cX10_addNeeds 3 = .ok (.iload 4, 2) := by decide +kernel
theorem dX10_addNeeds_5 : decode cX10_addNeeds 5 = .ok (.aload_n 1, 1) := by decide +kernel
theorem dX10_addNeeds_6 : decode cX10_addNeeds 6 = .ok (.getfield 66, 3) := by decide +kernel
theorem dX10_addNeeds_9 : decode cX10_addNeeds 9 = .ok (.if_icmp .ge 42, 3) := by decide +kernel
theorem dX10_addNeeds_12 : decode cX10_addNeeds 12 = .ok (.aload_n 1, 1) := by decide +kernel
theorem dX10_addNeeds_13 : decode cX10_addNeeds 13 = .ok (.iload 4, 2) := by decide +kernel
theorem dX10_addNeeds_15 : decode cX10_addNeeds 15 = .ok (.invokevirtual 69, 3) := by decide +kernel
theorem dX10_addNeeds_18 : decode cX10_addNeeds 18 = .ok (.iload_n 2, 1) := by decide +kernel
theorem dX10_addNeeds_19 : decode cX10_addNeeds 19 = .ok (.if_icmp .ne 26, 3) := by decide +kernel
theorem dX10_addNeeds_22 : decode cX10_addNeeds 22 = .ok (.aload_n 1, 1) := by decide +kernel
theorem dX10_addNeeds_23 : decode cX10_addNeeds 23 = .ok (.iload 4, 2) := by decide +kernel
theorem dX10_addNeeds_25 : decode cX10_addNeeds 25 = .ok (.iload_n 3, 1) := by decide +kernel
theorem dX10_addNeeds_26 : decode cX10_addNeeds 26 = .ok (.invokevirtual 72, 3) := by decide +kernel
theorem dX10_addNeeds_29 : decode cX10_addNeeds 29 = .ok (.iconst (-1), 1) := by decide +kernel
theorem dX10_addNeeds_30 : decode cX10_addNeeds 30 = .ok (.if_icmp .ne 15, 3) := by decide +kernel
theorem dX10_addNeeds_33 : decode cX10_addNeeds 33 = .ok (.aload_n 0, 1) := by decide +kernel
theorem dX10_addNeeds_34 : decode cX10_addNeeds 34 = .ok (.iconst 1, 1) := by decide +kernel
theorem dX10_addNeeds_35 : decode cX10_addNeeds 35 = .ok (.iload_n 3, 1) := by decide +kernel
theorem dX10_addNeeds_36 : decode cX10_addNeeds 36 = .ok (.aload_n 1, 1) := by decide +kernel
theorem dX10_addNeeds_37 : decode cX10_addNeeds 37 = .ok (.iload 4, 2) := by decide +kernel
theorem dX10_addNeeds_39 : decode cX10_addNeeds 39 = .ok (.invokevirtual 75, 3) := by decide +kernel
theorem dX10_addNeeds_42 : decode cX10_addNeeds 42 = .ok (.invokevirtual 78, 3) := by decide +kernel
theorem dX10_addNeeds_45 : decode cX10_addNeeds 45 = .ok (.iinc 4 1, 3) := by decide +kernel
theorem dX10_addNeeds_48 : decode cX10_addNeeds 48 = .ok (.goto (-45), 3) := by decide +kernel
theorem dX10_addNeeds_51 : decode cX10_addNeeds 51 = .ok (.return_, 1) := by decide +kernel
abbrev M_X10_addNeeds : mM := (cX10_addNeeds, 5, RX10, none, false, 2, 45, 0, 0)
theorem gX10_addNeeds : cI yX10_addNeeds M_X10_addNeeds 3 := ⟨(wsl_38 _ (List.mem_of_getElem? (i := 4) rfl)), (wsl_38 _ (List.mem_of_getElem? (i := 5) rfl)), (wsl_6 _ (List.mem_of_getElem? (i := 0) rfl)), (wsl_38 _ (List.mem_of_getElem? (i := 6) rfl)), by decide +kernel⟩
noncomputable def fX10_addNeeds_s3 (h0 : hH) (a0 a1 a2 a3 : Int) : hH × Int → Option ((hH × Int) ⊕ (hH)) := fun (h, l4) =>
  if l4 < h a1 0 then
    (fX3_tableAt h a1 l4).bind fun r15 =>
    if r15 = a2 then
      (fX3_value h a1 l4 a3).bind fun r26 =>
      if r26 = -1 then
        (fX3_numberAt h a1 l4).bind fun r39 =>
        (fX10_add h a0 1 a3 r39).bind fun h42 =>
        some (.inl (h42, w32 (l4 + 1)))
      else
        some (.inl (h, w32 (l4 + 1)))
    else
      some (.inl (h, w32 (l4 + 1)))
  else
    some (.inr (h))
noncomputable def fX10_addNeeds (h : hH) (a0 a1 a2 a3 : Int) : Option (hH) :=
  lpO (fX10_addNeeds_s3 h a0 a1 a2 a3) (h, 0)
section M_X10_addNeeds
variable {p : Program} {l : Launch} {e : Env} {R : Room} {s : State} {m : MethodId} {args : Array Value} {below : List Frame} {meth : Method} {c : Code} {D : va_G} {G : gG} {A : Nat → Prop} {H0 : Heap} {n0 : Int} {x : Option vV × hH} {h : hH}
set_option maxRecDepth 100000 in
set_option maxHeartbeats 4000000 in
theorem oX10_addNeeds_s3 {h0 : hH} {a0 a1 a2 a3 l4 : Int} {K : (hH × Int) ⊕ (hH) → Prop} (k0 : ∀ r, K (.inr (r)) → x = (none, r)) (k1 : ∀ (h : hH) (l4 : Int), K (.inl (h, l4)) → Wq p l e R s m args below meth c D G A H0 true n0 M_X10_addNeeds x 0 0 3 [(0, (20, a0)), (1, (13, a1)), (2, (0, a2)), (3, (0, a3)), (4, (0, l4))] [] h) {r : (hH × Int) ⊕ (hH)} (hr : fX10_addNeeds_s3 h0 a0 a1 a2 a3 (h, l4) = some r) (hk : K r) : Wq p l e R s m args below meth c D G A H0 true n0 M_X10_addNeeds x 0 0 3 [(0, (20, a0)), (1, (13, a1)), (2, (0, a2)), (3, (0, a3)), (4, (0, l4))] [] h := by
  unfold fX10_addNeeds_s3 at hr
  refine r_iload dX10_addNeeds_3 4 rfl (Or.inl rfl) ?_
  refine r_aload_n dX10_addNeeds_5 rfl 1 rfl (nl rfl) ?_
  refine r_get 3 0 (o := a1) (w := (0, h a1 0)) (T := TX3) (ref := "FollowingRefs$Rows") rfl (by decide) rfl (by decide) inlX3 (wsl_38 _ (List.mem_of_getElem? (i := 7) rfl)) rfl dX10_addNeeds_6 rfl ?_
  refine r_icmp_ge dX10_addNeeds_9 (tgt := 51) (by decide) (fun hc => ?_) (fun hc => ?_)
  · have hr := ifn hr hc
    obtain rfl := Option.some.inj hr
    exact r_vret dX10_addNeeds_51 rfl (k0 _ hk) ⟨rfl, rfl⟩
  · have hr := ifp hr hc
    refine r_aload_n dX10_addNeeds_12 rfl 1 rfl (nl rfl) ?_
    refine r_iload dX10_addNeeds_13 4 rfl (Or.inl rfl) ?_
    obtain ⟨r15, hg15, hr⟩ := bnd hr
    refine k_V (ci := 3) (o := a1) (T := TX3) (as := [(0, l4)]) (rest := []) (X := (some (0, r15), h)) (oX3_tableAt hg15) gX3_tableAt rfl (by decide) rfl (wsl_38 _ (List.mem_of_getElem? (i := 8) rfl)) rfl dX10_addNeeds_15 rfl ?_
    refine r_iload_n dX10_addNeeds_18 rfl 2 rfl (Or.inl rfl) ?_
    refine r_icmp_ne dX10_addNeeds_19 (tgt := 45) (by decide) (fun hc => ?_) (fun hc => ?_)
    · have hr := ifn hr hc
      refine r_iinc (k := 4) (v := l4) dX10_addNeeds_45 rfl (by decide) (lv' := [(4, (0, w32 (l4 + 1))), (0, (20, a0)), (1, (13, a1)), (2, (0, a2)), (3, (0, a3))]) rfl ?_
      refine r_goto dX10_addNeeds_48 (tgt := 3) (by decide) ?_
      refine r_sub [1, 2, 3, 4, 0] (lv' := [(0, (20, a0)), (1, (13, a1)), (2, (0, a2)), (3, (0, a3)), (4, (0, w32 (l4 + 1)))]) rfl ?_
      obtain rfl := Option.some.inj hr
      exact k1 _ _ hk
    · have hr := ifp hr hc
      refine r_aload_n dX10_addNeeds_22 rfl 1 rfl (nl rfl) ?_
      refine r_iload dX10_addNeeds_23 4 rfl (Or.inl rfl) ?_
      refine r_iload_n dX10_addNeeds_25 rfl 3 rfl (Or.inl rfl) ?_
      obtain ⟨r26, hg26, hr⟩ := bnd hr
      refine k_V (ci := 3) (o := a1) (T := TX3) (as := [(0, l4), (0, a3)]) (rest := []) (X := (some (0, r26), h)) (oX3_value hg26) gX3_value rfl (by decide) rfl (wsl_38 _ (List.mem_of_getElem? (i := 9) rfl)) rfl dX10_addNeeds_26 rfl ?_
      refine r_iconst dX10_addNeeds_29 (by decide) ?_
      refine r_icmp_ne dX10_addNeeds_30 (tgt := 45) (by decide) (fun hc => ?_) (fun hc => ?_)
      · have hr := ifn hr hc
        refine r_iinc (k := 4) (v := l4) dX10_addNeeds_45 rfl (by decide) (lv' := [(4, (0, w32 (l4 + 1))), (0, (20, a0)), (1, (13, a1)), (2, (0, a2)), (3, (0, a3))]) rfl ?_
        refine r_goto dX10_addNeeds_48 (tgt := 3) (by decide) ?_
        refine r_sub [1, 2, 3, 4, 0] (lv' := [(0, (20, a0)), (1, (13, a1)), (2, (0, a2)), (3, (0, a3)), (4, (0, w32 (l4 + 1)))]) rfl ?_
        obtain rfl := Option.some.inj hr
        exact k1 _ _ hk
      · have hr := ifp hr hc
        refine r_aload_n dX10_addNeeds_33 rfl 0 rfl (nl rfl) ?_
        refine r_iconst dX10_addNeeds_34 (by decide) ?_
        refine r_iload_n dX10_addNeeds_35 rfl 3 rfl (Or.inl rfl) ?_
        refine r_aload_n dX10_addNeeds_36 rfl 1 rfl (nl rfl) ?_
        refine r_iload dX10_addNeeds_37 4 rfl (Or.inl rfl) ?_
        obtain ⟨r39, hg39, hr⟩ := bnd hr
        refine k_V (ci := 3) (o := a1) (T := TX3) (as := [(0, l4)]) (rest := [(0, a3), (0, 1), (20, a0)]) (X := (some (0, r39), h)) (oX3_numberAt hg39) gX3_numberAt rfl (by decide) rfl (wsl_38 _ (List.mem_of_getElem? (i := 10) rfl)) rfl dX10_addNeeds_39 rfl ?_
        obtain ⟨h42, hg42, hr⟩ := bnd hr
        refine k_V (ci := 10) (o := a0) (T := TX10) (as := [(0, 1), (0, a3), (0, r39)]) (rest := []) (X := (none, h42)) (oX10_add hg42) gX10_add rfl (by decide) rfl (wsl_38 _ (List.mem_of_getElem? (i := 11) rfl)) rfl dX10_addNeeds_42 rfl ?_
        refine r_iinc (k := 4) (v := l4) dX10_addNeeds_45 rfl (by decide) (lv' := [(4, (0, w32 (l4 + 1))), (0, (20, a0)), (1, (13, a1)), (2, (0, a2)), (3, (0, a3))]) rfl ?_
        refine r_goto dX10_addNeeds_48 (tgt := 3) (by decide) ?_
        refine r_sub [1, 2, 3, 4, 0] (lv' := [(0, (20, a0)), (1, (13, a1)), (2, (0, a2)), (3, (0, a3)), (4, (0, w32 (l4 + 1)))]) rfl ?_
        obtain rfl := Option.some.inj hr
        exact k1 _ _ hk
set_option maxRecDepth 100000 in
set_option maxHeartbeats 4000000 in
theorem oX10_addNeeds_b0 {a0 a1 a2 a3 : Int} {K : hH → Prop} (k0 : ∀ r, K (r) → x = (none, r)) {r : hH} (hr : fX10_addNeeds h a0 a1 a2 a3 = some r) (hk : K r) : Wq p l e R s m args below meth c D G A H0 true n0 M_X10_addNeeds x 0 0 0 [(0, (20, a0)), (1, (13, a1)), (2, (0, a2)), (3, (0, a3))] [] h := by
  unfold fX10_addNeeds at hr
  refine r_iconst dX10_addNeeds_0 (by decide) ?_
  refine r_istore dX10_addNeeds_1 (Or.inl rfl) (by decide) (lv' := [(4, (0, 0)), (0, (20, a0)), (1, (13, a1)), (2, (0, a2)), (3, (0, a3))]) rfl ?_
  refine r_sub [1, 2, 3, 4, 0] (lv' := [(0, (20, a0)), (1, (13, a1)), (2, (0, a2)), (3, (0, a3)), (4, (0, 0))]) rfl ?_
  exact lp_ok (w := fun (q : hH × Int) => Wq p l e R s m args below meth c D G A H0 true n0 M_X10_addNeeds x 0 0 3 [(0, (20, a0)), (1, (13, a1)), (2, (0, a2)), (3, (0, a3)), (4, (0, q.2))] [] (q.1)) (K := K) (fun ⟨q0, q1⟩ r h1 h2 => oX10_addNeeds_s3 (K := Sum.elim (fun (q : hH × Int) => Wq p l e R s m args below meth c D G A H0 true n0 M_X10_addNeeds x 0 0 3 [(0, (20, a0)), (1, (13, a1)), (2, (0, a2)), (3, (0, a3)), (4, (0, q.2))] [] (q.1)) (K)) (fun r z => k0 r z) (fun _ _ z => z) h1 h2) hr hk
end M_X10_addNeeds
theorem oX10_addNeeds {l : Launch} {D : va_G} {G : gG} {h : hH} {a0 a1 a2 a3 : Int} {r : hH} (hr : fX10_addNeeds h a0 a1 a2 a3 = some r) : Ctr l D G true yX10_addNeeds M_X10_addNeeds [(20, a0), (13, a1), (0, a2), (0, a3)] h (none, r) :=
  Ctr_of (by decide) rfl (fun z => by cases z) (nl rfl) (fun {p e R s m args below meth c A H0} => by
    exact oX10_addNeeds_b0 (K := fun z9 => z9 = r) (fun r9 z => by rw [z]) hr rfl)
/-! X10_isDouble -/
theorem dX10_isDouble_0 : decode cX10_isDouble 0 = .ok (.aload_n 0, 1) := by decide +kernel
theorem dX10_isDouble_1 : decode cX10_isDouble 1 = .ok (.iload_n 1, 1) := by decide +kernel
theorem dX10_isDouble_2 : decode cX10_isDouble 2 = .ok (.invokevirtual 69, 3) := by decide +kernel
theorem dX10_isDouble_5 : decode cX10_isDouble 5 = .ok (.istore 4, 2) := by decide +kernel
theorem dX10_isDouble_7 : decode cX10_isDouble 7 = .ok (.aload_n 0, 1) := by decide +kernel
theorem dX10_isDouble_8 : decode cX10_isDouble 8 = .ok (.iload_n 1, 1) := by decide +kernel
theorem dX10_isDouble_9 : decode cX10_isDouble 9 = .ok (.iload_n 2, 1) := by decide +kernel
theorem dX10_isDouble_10 : decode cX10_isDouble 10 = .ok (.invokevirtual 72, 3) := by decide +kernel
theorem dX10_isDouble_13 : decode cX10_isDouble 13 = .ok (.istore 5, 2) := by decide +kernel
theorem dX10_isDouble_15 : decode cX10_isDouble 15 = .ok (.iload_n 3, 1) := by decide +kernel
theorem dX10_isDouble_16 : decode cX10_isDouble 16 = .ok (.iconst (-1), 1) := by decide +kernel
theorem dX10_isDouble_17 : decode cX10_isDouble 17 = .ok (.if_icmp .ne 7, 3) := by decide +kernel
theorem dX10_isDouble_20 : decode cX10_isDouble 20 = .ok (.iconst (-1), 1) := by decide +kernel
theorem dX10_isDouble_21 : decode cX10_isDouble 21 = .ok (.goto 9, 3) := by decide +kernel
theorem dX10_isDouble_24 : decode cX10_isDouble 24 = .ok (.aload_n 0, 1) := by decide +kernel
theorem dX10_isDouble_25 : decode cX10_isDouble 25 = .ok (.iload_n 1, 1) := by decide +kernel
theorem dX10_isDouble_26 : decode cX10_isDouble 26 = .ok (.iload_n 3, 1) := by decide +kernel
theorem dX10_isDouble_27 : decode cX10_isDouble 27 = .ok (.invokevirtual 72, 3) := by decide +kernel
theorem dX10_isDouble_30 : decode cX10_isDouble 30 = .ok (.istore 6, 2) := by decide +kernel
theorem dX10_isDouble_32 : decode cX10_isDouble 32 = .ok (.iload 5, 2) := by decide +kernel
theorem dX10_isDouble_34 : decode cX10_isDouble 34 = .ok (.iconst (-1), 1) := by decide +kernel
theorem dX10_isDouble_35 : decode cX10_isDouble 35 = .ok (.if_icmp .eq 14, 3) := by decide +kernel
theorem dX10_isDouble_38 : decode cX10_isDouble 38 = .ok (.iload_n 3, 1) := by decide +kernel
theorem dX10_isDouble_39 : decode cX10_isDouble 39 = .ok (.iconst (-1), 1) := by decide +kernel
theorem dX10_isDouble_40 : decode cX10_isDouble 40 = .ok (.if_icmp .eq 11, 3) := by decide +kernel
theorem dX10_isDouble_43 : decode cX10_isDouble 43 = .ok (.iload 6, 2) := by decide +kernel
theorem dX10_isDouble_45 : decode cX10_isDouble 45 = .ok (.iconst (-1), 1) := by decide +kernel
theorem dX10_isDouble_46 : decode cX10_isDouble 46 = .ok (.if_icmp .ne 5, 3) := by decide +kernel
theorem dX10_isDouble_49 : decode cX10_isDouble 49 = .ok (.iconst 0, 1) := by decide +kernel
theorem dX10_isDouble_50 : decode cX10_isDouble 50 = .ok (.ireturn, 1) := by decide +kernel
theorem dX10_isDouble_51 : decode cX10_isDouble 51 = .ok (.iconst 0, 1) := by decide +kernel
theorem dX10_isDouble_52 : decode cX10_isDouble 52 = .ok (.istore 7, 2) := by decide +kernel
theorem dX10_isDouble_54 : decode cX10_isDouble 54 = .ok (.iload 7, 2) := by decide +kernel
theorem dX10_isDouble_56 : decode cX10_isDouble 56 = .ok (.iload_n 1, 1) := by decide +kernel
theorem dX10_isDouble_57 : decode cX10_isDouble 57 = .ok (.if_icmp .ge 51, 3) := by decide +kernel
theorem dX10_isDouble_60 : decode cX10_isDouble 60 = .ok (.aload_n 0, 1) := by decide +kernel
theorem dX10_isDouble_61 : decode cX10_isDouble 61 = .ok (.iload 7, 2) := by decide +kernel
theorem dX10_isDouble_63 : decode cX10_isDouble 63 = .ok (.invokevirtual 69, 3) := by decide +kernel
theorem dX10_isDouble_66 : decode cX10_isDouble 66 = .ok (.iload 4, 2) := by decide +kernel
theorem dX10_isDouble_68 : decode cX10_isDouble 68 = .ok (.if_icmp .ne 34, 3) := by decide +kernel
theorem dX10_isDouble_71 : decode cX10_isDouble 71 = .ok (.aload_n 0, 1) := by decide +kernel
theorem dX10_isDouble_72 : decode cX10_isDouble 72 = .ok (.iload 7, 2) := by decide +kernel
theorem dX10_isDouble_74 : decode cX10_isDouble 74 = .ok (.iload_n 2, 1) := by decide +kernel
theorem dX10_isDouble_75 : decode cX10_isDouble 75 = .ok (.invokevirtual 72, 3) := by decide +kernel
theorem dX10_isDouble_78 : decode cX10_isDouble 78 = .ok (.iload 5, 2) := by decide +kernel
theorem dX10_isDouble_80 : decode cX10_isDouble 80 = .ok (.if_icmp .ne 22, 3) := by decide +kernel
theorem dX10_isDouble_83 : decode cX10_isDouble 83 = .ok (.iload_n 3, 1) := by decide +kernel
theorem dX10_isDouble_84 : decode cX10_isDouble 84 = .ok (.iconst (-1), 1) := by decide +kernel
theorem dX10_isDouble_85 : decode cX10_isDouble 85 = .ok (.if_icmp .eq 15, 3) := by decide +kernel
theorem dX10_isDouble_88 : decode cX10_isDouble 88 = .ok (.aload_n 0, 1) := by decide +kernel
theorem dX10_isDouble_89 : decode cX10_isDouble 89 = .ok (.iload 7, 2) := by decide +kernel
theorem dX10_isDouble_91 : decode cX10_isDouble 91 = .ok (.iload_n 3, 1) := by decide +kernel
theorem dX10_isDouble_92 : decode cX10_isDouble 92 = .ok (.invokevirtual 72, 3) := by decide +kernel
theorem dX10_isDouble_95 : decode cX10_isDouble 95 = .ok (.iload 6, 2) := by decide +kernel
theorem dX10_isDouble_97 : decode cX10_isDouble 97 = .ok (.if_icmp .ne 5, 3) := by decide +kernel
theorem dX10_isDouble_100 : decode cX10_isDouble 100 = .ok (.iconst 1, 1) := by decide +kernel
theorem dX10_isDouble_101 : decode cX10_isDouble 101 = .ok (.ireturn, 1) := by decide +kernel
theorem dX10_isDouble_102 : decode cX10_isDouble 102 = .ok (.iinc 7 1, 3) := by decide +kernel
theorem dX10_isDouble_105 : decode cX10_isDouble 105 = .ok (.goto (-51), 3) := by decide +kernel
theorem dX10_isDouble_108 : decode cX10_isDouble 108 = .ok (.iconst 0, 1) := by decide +kernel
theorem dX10_isDouble_109 : decode cX10_isDouble 109 = .ok (.ireturn, 1) := by decide +kernel
abbrev M_X10_isDouble : mM := (cX10_isDouble, 8, RX10, some .boolean, false, 1, 23, 0, 0)
theorem gX10_isDouble : cS yX10_isDouble M_X10_isDouble 4 := ⟨(wsl_38 _ (List.mem_of_getElem? (i := 21) rfl)), (wsl_6 _ (List.mem_of_getElem? (i := 0) rfl)), (wsl_38 _ (List.mem_of_getElem? (i := 22) rfl)), by decide +kernel⟩
noncomputable def fX10_isDouble_s54 (h : hH) (a0 a1 a2 a3 l4 l5 l6 : Int) : Int → Option ((Int) ⊕ (Int)) := fun l7 =>
  if l7 < a1 then
    (fX3_tableAt h a0 l7).bind fun r63 =>
    if r63 = l4 then
      (fX3_value h a0 l7 a2).bind fun r75 =>
      if r75 = l5 then
        if a3 = -1 then
          some (.inr (1))
        else
          (fX3_value h a0 l7 a3).bind fun r92 =>
          if r92 = l6 then
            some (.inr (1))
          else
            some (.inl (w32 (l7 + 1)))
      else
        some (.inl (w32 (l7 + 1)))
    else
      some (.inl (w32 (l7 + 1)))
  else
    some (.inr (0))
noncomputable def fX10_isDouble_b51 (h : hH) (a0 a1 a2 a3 l4 l5 l6 : Int) : Option (Int) :=
  lpO (fX10_isDouble_s54 h a0 a1 a2 a3 l4 l5 l6) 0
noncomputable def fX10_isDouble_b30 (h : hH) (a0 a1 a2 a3 l4 l5 s0 : Int) : Option (Int) :=
  if l5 = -1 then
    some 0
  else
    if a3 = -1 then
      fX10_isDouble_b51 h a0 a1 a2 a3 l4 l5 s0
    else
      if s0 = -1 then
        some 0
      else
        fX10_isDouble_b51 h a0 a1 a2 a3 l4 l5 s0
noncomputable def fX10_isDouble (h : hH) (a0 a1 a2 a3 : Int) : Option (Int) :=
  (fX3_tableAt h a0 a1).bind fun r2 =>
  (fX3_value h a0 a1 a2).bind fun r10 =>
  if a3 = -1 then
    fX10_isDouble_b30 h a0 a1 a2 a3 r2 r10 (-1)
  else
    (fX3_value h a0 a1 a3).bind fun r27 =>
    fX10_isDouble_b30 h a0 a1 a2 a3 r2 r10 r27
section M_X10_isDouble
variable {p : Program} {l : Launch} {e : Env} {R : Room} {s : State} {m : MethodId} {args : Array Value} {below : List Frame} {meth : Method} {c : Code} {D : va_G} {G : gG} {A : Nat → Prop} {H0 : Heap} {n0 : Int} {x : Option vV × hH} {h : hH}
set_option maxRecDepth 100000 in
set_option maxHeartbeats 4000000 in
theorem oX10_isDouble_s54 {a0 a1 a2 a3 l4 l5 l6 l7 : Int} {K : (Int) ⊕ (Int) → Prop} (k0 : ∀ r, K (.inr (r)) → x = (some (2, r), h)) (k1 : ∀ (l7 : Int), K (.inl l7) → Wq p l e R s m args below meth c D G A H0 true n0 M_X10_isDouble x 0 0 54 [(0, (13, a0)), (1, (0, a1)), (2, (0, a2)), (3, (0, a3)), (4, (0, l4)), (5, (0, l5)), (6, (0, l6)), (7, (0, l7))] [] h) {r : (Int) ⊕ (Int)} (hr : fX10_isDouble_s54 h a0 a1 a2 a3 l4 l5 l6 l7 = some r) (hk : K r) : Wq p l e R s m args below meth c D G A H0 true n0 M_X10_isDouble x 0 0 54 [(0, (13, a0)), (1, (0, a1)), (2, (0, a2)), (3, (0, a3)), (4, (0, l4)), (5, (0, l5)), (6, (0, l6)), (7, (0, l7))] [] h := by
  unfold fX10_isDouble_s54 at hr
  refine r_iload dX10_isDouble_54 7 rfl (Or.inl rfl) ?_
  refine r_iload_n dX10_isDouble_56 rfl 1 rfl (Or.inl rfl) ?_
  refine r_icmp_ge dX10_isDouble_57 (tgt := 108) (by decide) (fun hc => ?_) (fun hc => ?_)
  · have hr := ifn hr hc
    refine r_iconst dX10_isDouble_108 (by decide) ?_
    refine r_scast 0 (v := (0, 0)) (w := (2, 0)) rfl cz (fun _ => Or.inl rfl) (st' := [(2, 0)]) rfl ?_
    obtain rfl := Option.some.inj hr
    exact r_ret dX10_isDouble_109 rfl (Or.inr ⟨rfl, rfl⟩) (k0 _ hk) ⟨rfl, rfl⟩
  · have hr := ifp hr hc
    refine r_aload_n dX10_isDouble_60 rfl 0 rfl (nl rfl) ?_
    refine r_iload dX10_isDouble_61 7 rfl (Or.inl rfl) ?_
    obtain ⟨r63, hg63, hr⟩ := bnd hr
    refine k_V (ci := 3) (o := a0) (T := TX3) (as := [(0, l7)]) (rest := []) (X := (some (0, r63), h)) (oX3_tableAt hg63) gX3_tableAt rfl (by decide) rfl (wsl_38 _ (List.mem_of_getElem? (i := 8) rfl)) rfl dX10_isDouble_63 rfl ?_
    refine r_iload dX10_isDouble_66 4 rfl (Or.inl rfl) ?_
    refine r_icmp_ne dX10_isDouble_68 (tgt := 102) (by decide) (fun hc => ?_) (fun hc => ?_)
    · have hr := ifn hr hc
      refine r_iinc (k := 7) (v := l7) dX10_isDouble_102 rfl (by decide) (lv' := [(7, (0, w32 (l7 + 1))), (0, (13, a0)), (1, (0, a1)), (2, (0, a2)), (3, (0, a3)), (4, (0, l4)), (5, (0, l5)), (6, (0, l6))]) rfl ?_
      refine r_goto dX10_isDouble_105 (tgt := 54) (by decide) ?_
      refine r_sub [1, 2, 3, 4, 5, 6, 7, 0] (lv' := [(0, (13, a0)), (1, (0, a1)), (2, (0, a2)), (3, (0, a3)), (4, (0, l4)), (5, (0, l5)), (6, (0, l6)), (7, (0, w32 (l7 + 1)))]) rfl ?_
      obtain rfl := Option.some.inj hr
      exact k1 _ hk
    · have hr := ifp hr hc
      refine r_aload_n dX10_isDouble_71 rfl 0 rfl (nl rfl) ?_
      refine r_iload dX10_isDouble_72 7 rfl (Or.inl rfl) ?_
      refine r_iload_n dX10_isDouble_74 rfl 2 rfl (Or.inl rfl) ?_
      obtain ⟨r75, hg75, hr⟩ := bnd hr
      refine k_V (ci := 3) (o := a0) (T := TX3) (as := [(0, l7), (0, a2)]) (rest := []) (X := (some (0, r75), h)) (oX3_value hg75) gX3_value rfl (by decide) rfl (wsl_38 _ (List.mem_of_getElem? (i := 9) rfl)) rfl dX10_isDouble_75 rfl ?_
      refine r_iload dX10_isDouble_78 5 rfl (Or.inl rfl) ?_
      refine r_icmp_ne dX10_isDouble_80 (tgt := 102) (by decide) (fun hc => ?_) (fun hc => ?_)
      · have hr := ifn hr hc
        refine r_iinc (k := 7) (v := l7) dX10_isDouble_102 rfl (by decide) (lv' := [(7, (0, w32 (l7 + 1))), (0, (13, a0)), (1, (0, a1)), (2, (0, a2)), (3, (0, a3)), (4, (0, l4)), (5, (0, l5)), (6, (0, l6))]) rfl ?_
        refine r_goto dX10_isDouble_105 (tgt := 54) (by decide) ?_
        refine r_sub [1, 2, 3, 4, 5, 6, 7, 0] (lv' := [(0, (13, a0)), (1, (0, a1)), (2, (0, a2)), (3, (0, a3)), (4, (0, l4)), (5, (0, l5)), (6, (0, l6)), (7, (0, w32 (l7 + 1)))]) rfl ?_
        obtain rfl := Option.some.inj hr
        exact k1 _ hk
      · have hr := ifp hr hc
        refine r_iload_n dX10_isDouble_83 rfl 3 rfl (Or.inl rfl) ?_
        refine r_iconst dX10_isDouble_84 (by decide) ?_
        refine r_icmp_eq dX10_isDouble_85 (tgt := 100) (by decide) (fun hc => ?_) (fun hc => ?_)
        · have hr := ifp hr hc
          refine r_iconst dX10_isDouble_100 (by decide) ?_
          refine r_scast 0 (v := (0, 1)) (w := (2, 1)) rfl cz (fun _ => Or.inr rfl) (st' := [(2, 1)]) rfl ?_
          obtain rfl := Option.some.inj hr
          exact r_ret dX10_isDouble_101 rfl (Or.inr ⟨rfl, rfl⟩) (k0 _ hk) ⟨rfl, rfl⟩
        · have hr := ifn hr hc
          refine r_aload_n dX10_isDouble_88 rfl 0 rfl (nl rfl) ?_
          refine r_iload dX10_isDouble_89 7 rfl (Or.inl rfl) ?_
          refine r_iload_n dX10_isDouble_91 rfl 3 rfl (Or.inl rfl) ?_
          obtain ⟨r92, hg92, hr⟩ := bnd hr
          refine k_V (ci := 3) (o := a0) (T := TX3) (as := [(0, l7), (0, a3)]) (rest := []) (X := (some (0, r92), h)) (oX3_value hg92) gX3_value rfl (by decide) rfl (wsl_38 _ (List.mem_of_getElem? (i := 9) rfl)) rfl dX10_isDouble_92 rfl ?_
          refine r_iload dX10_isDouble_95 6 rfl (Or.inl rfl) ?_
          refine r_icmp_ne dX10_isDouble_97 (tgt := 102) (by decide) (fun hc => ?_) (fun hc => ?_)
          · have hr := ifn hr hc
            refine r_iinc (k := 7) (v := l7) dX10_isDouble_102 rfl (by decide) (lv' := [(7, (0, w32 (l7 + 1))), (0, (13, a0)), (1, (0, a1)), (2, (0, a2)), (3, (0, a3)), (4, (0, l4)), (5, (0, l5)), (6, (0, l6))]) rfl ?_
            refine r_goto dX10_isDouble_105 (tgt := 54) (by decide) ?_
            refine r_sub [1, 2, 3, 4, 5, 6, 7, 0] (lv' := [(0, (13, a0)), (1, (0, a1)), (2, (0, a2)), (3, (0, a3)), (4, (0, l4)), (5, (0, l5)), (6, (0, l6)), (7, (0, w32 (l7 + 1)))]) rfl ?_
            obtain rfl := Option.some.inj hr
            exact k1 _ hk
          · have hr := ifp hr hc
            refine r_iconst dX10_isDouble_100 (by decide) ?_
            refine r_scast 0 (v := (0, 1)) (w := (2, 1)) rfl cz (fun _ => Or.inr rfl) (st' := [(2, 1)]) rfl ?_
            obtain rfl := Option.some.inj hr
            exact r_ret dX10_isDouble_101 rfl (Or.inr ⟨rfl, rfl⟩) (k0 _ hk) ⟨rfl, rfl⟩
set_option maxRecDepth 100000 in
set_option maxHeartbeats 4000000 in
theorem oX10_isDouble_b51 {a0 a1 a2 a3 l4 l5 l6 : Int} {K : Int → Prop} (k0 : ∀ r, K (r) → x = (some (2, r), h)) {r : Int} (hr : fX10_isDouble_b51 h a0 a1 a2 a3 l4 l5 l6 = some r) (hk : K r) : Wq p l e R s m args below meth c D G A H0 true n0 M_X10_isDouble x 0 0 51 [(0, (13, a0)), (1, (0, a1)), (2, (0, a2)), (3, (0, a3)), (4, (0, l4)), (5, (0, l5)), (6, (0, l6))] [] h := by
  unfold fX10_isDouble_b51 at hr
  refine r_iconst dX10_isDouble_51 (by decide) ?_
  refine r_istore dX10_isDouble_52 (Or.inl rfl) (by decide) (lv' := [(7, (0, 0)), (0, (13, a0)), (1, (0, a1)), (2, (0, a2)), (3, (0, a3)), (4, (0, l4)), (5, (0, l5)), (6, (0, l6))]) rfl ?_
  refine r_sub [1, 2, 3, 4, 5, 6, 7, 0] (lv' := [(0, (13, a0)), (1, (0, a1)), (2, (0, a2)), (3, (0, a3)), (4, (0, l4)), (5, (0, l5)), (6, (0, l6)), (7, (0, 0))]) rfl ?_
  exact lp_ok (w := fun (q : Int) => Wq p l e R s m args below meth c D G A H0 true n0 M_X10_isDouble x 0 0 54 [(0, (13, a0)), (1, (0, a1)), (2, (0, a2)), (3, (0, a3)), (4, (0, l4)), (5, (0, l5)), (6, (0, l6)), (7, (0, q))] [] (h)) (K := K) (fun q r h1 h2 => oX10_isDouble_s54 (K := Sum.elim (fun (q : Int) => Wq p l e R s m args below meth c D G A H0 true n0 M_X10_isDouble x 0 0 54 [(0, (13, a0)), (1, (0, a1)), (2, (0, a2)), (3, (0, a3)), (4, (0, l4)), (5, (0, l5)), (6, (0, l6)), (7, (0, q))] [] (h)) (K)) (fun r z => k0 r z) (fun _ z => z) h1 h2) hr hk
set_option maxRecDepth 100000 in
set_option maxHeartbeats 4000000 in
theorem oX10_isDouble_b30 {a0 a1 a2 a3 l4 l5 s0 : Int} {K : Int → Prop} (k0 : ∀ r, K (r) → x = (some (2, r), h)) {r : Int} (hr : fX10_isDouble_b30 h a0 a1 a2 a3 l4 l5 s0 = some r) (hk : K r) : Wq p l e R s m args below meth c D G A H0 true n0 M_X10_isDouble x 0 0 30 [(0, (13, a0)), (1, (0, a1)), (2, (0, a2)), (3, (0, a3)), (4, (0, l4)), (5, (0, l5))] [(0, s0)] h := by
  unfold fX10_isDouble_b30 at hr
  refine r_istore dX10_isDouble_30 (Or.inl rfl) (by decide) (lv' := [(6, (0, s0)), (0, (13, a0)), (1, (0, a1)), (2, (0, a2)), (3, (0, a3)), (4, (0, l4)), (5, (0, l5))]) rfl ?_
  refine r_iload dX10_isDouble_32 6 rfl (Or.inl rfl) ?_
  refine r_iconst dX10_isDouble_34 (by decide) ?_
  refine r_icmp_eq dX10_isDouble_35 (tgt := 49) (by decide) (fun hc => ?_) (fun hc => ?_)
  · have hr := ifp hr hc
    refine r_iconst dX10_isDouble_49 (by decide) ?_
    refine r_scast 0 (v := (0, 0)) (w := (2, 0)) rfl cz (fun _ => Or.inl rfl) (st' := [(2, 0)]) rfl ?_
    obtain rfl := Option.some.inj hr
    exact r_ret dX10_isDouble_50 rfl (Or.inr ⟨rfl, rfl⟩) (k0 _ hk) ⟨rfl, rfl⟩
  · have hr := ifn hr hc
    refine r_iload_n dX10_isDouble_38 rfl 4 rfl (Or.inl rfl) ?_
    refine r_iconst dX10_isDouble_39 (by decide) ?_
    refine r_icmp_eq dX10_isDouble_40 (tgt := 51) (by decide) (fun hc => ?_) (fun hc => ?_)
    · have hr := ifp hr hc
      refine r_sub [1, 2, 3, 4, 5, 6, 0] (lv' := [(0, (13, a0)), (1, (0, a1)), (2, (0, a2)), (3, (0, a3)), (4, (0, l4)), (5, (0, l5)), (6, (0, s0))]) rfl ?_
      exact oX10_isDouble_b51 (K := K) (fun r z => k0 r z) hr hk
    · have hr := ifn hr hc
      refine r_iload dX10_isDouble_43 0 rfl (Or.inl rfl) ?_
      refine r_iconst dX10_isDouble_45 (by decide) ?_
      refine r_icmp_ne dX10_isDouble_46 (tgt := 51) (by decide) (fun hc => ?_) (fun hc => ?_)
      · have hr := ifn hr hc
        refine r_sub [1, 2, 3, 4, 5, 6, 0] (lv' := [(0, (13, a0)), (1, (0, a1)), (2, (0, a2)), (3, (0, a3)), (4, (0, l4)), (5, (0, l5)), (6, (0, s0))]) rfl ?_
        exact oX10_isDouble_b51 (K := K) (fun r z => k0 r z) hr hk
      · have hr := ifp hr hc
        refine r_iconst dX10_isDouble_49 (by decide) ?_
        refine r_scast 0 (v := (0, 0)) (w := (2, 0)) rfl cz (fun _ => Or.inl rfl) (st' := [(2, 0)]) rfl ?_
        obtain rfl := Option.some.inj hr
        exact r_ret dX10_isDouble_50 rfl (Or.inr ⟨rfl, rfl⟩) (k0 _ hk) ⟨rfl, rfl⟩
set_option maxRecDepth 100000 in
set_option maxHeartbeats 4000000 in
theorem oX10_isDouble_b0 {a0 a1 a2 a3 : Int} {K : Int → Prop} (k0 : ∀ r, K (r) → x = (some (2, r), h)) {r : Int} (hr : fX10_isDouble h a0 a1 a2 a3 = some r) (hk : K r) : Wq p l e R s m args below meth c D G A H0 true n0 M_X10_isDouble x 0 0 0 [(0, (13, a0)), (1, (0, a1)), (2, (0, a2)), (3, (0, a3))] [] h := by
  unfold fX10_isDouble at hr
  refine r_aload_n dX10_isDouble_0 rfl 0 rfl (nl rfl) ?_
  refine r_iload_n dX10_isDouble_1 rfl 1 rfl (Or.inl rfl) ?_
  obtain ⟨r2, hg2, hr⟩ := bnd hr
  refine k_V (ci := 3) (o := a0) (T := TX3) (as := [(0, a1)]) (rest := []) (X := (some (0, r2), h)) (oX3_tableAt hg2) gX3_tableAt rfl (by decide) rfl (wsl_38 _ (List.mem_of_getElem? (i := 8) rfl)) rfl dX10_isDouble_2 rfl ?_
  refine r_istore dX10_isDouble_5 (Or.inl rfl) (by decide) (lv' := [(4, (0, r2)), (0, (13, a0)), (1, (0, a1)), (2, (0, a2)), (3, (0, a3))]) rfl ?_
  refine r_aload_n dX10_isDouble_7 rfl 1 rfl (nl rfl) ?_
  refine r_iload_n dX10_isDouble_8 rfl 2 rfl (Or.inl rfl) ?_
  refine r_iload_n dX10_isDouble_9 rfl 3 rfl (Or.inl rfl) ?_
  obtain ⟨r10, hg10, hr⟩ := bnd hr
  refine k_V (ci := 3) (o := a0) (T := TX3) (as := [(0, a1), (0, a2)]) (rest := []) (X := (some (0, r10), h)) (oX3_value hg10) gX3_value rfl (by decide) rfl (wsl_38 _ (List.mem_of_getElem? (i := 9) rfl)) rfl dX10_isDouble_10 rfl ?_
  refine r_istore dX10_isDouble_13 (Or.inl rfl) (by decide) (lv' := [(5, (0, r10)), (4, (0, r2)), (0, (13, a0)), (1, (0, a1)), (2, (0, a2)), (3, (0, a3))]) rfl ?_
  refine r_iload_n dX10_isDouble_15 rfl 5 rfl (Or.inl rfl) ?_
  refine r_iconst dX10_isDouble_16 (by decide) ?_
  refine r_icmp_ne dX10_isDouble_17 (tgt := 24) (by decide) (fun hc => ?_) (fun hc => ?_)
  · have hr := ifn hr hc
    refine r_aload_n dX10_isDouble_24 rfl 2 rfl (nl rfl) ?_
    refine r_iload_n dX10_isDouble_25 rfl 3 rfl (Or.inl rfl) ?_
    refine r_iload_n dX10_isDouble_26 rfl 5 rfl (Or.inl rfl) ?_
    obtain ⟨r27, hg27, hr⟩ := bnd hr
    refine k_V (ci := 3) (o := a0) (T := TX3) (as := [(0, a1), (0, a3)]) (rest := []) (X := (some (0, r27), h)) (oX3_value hg27) gX3_value rfl (by decide) rfl (wsl_38 _ (List.mem_of_getElem? (i := 9) rfl)) rfl dX10_isDouble_27 rfl ?_
    refine r_sub [2, 3, 4, 5, 1, 0] (lv' := [(0, (13, a0)), (1, (0, a1)), (2, (0, a2)), (3, (0, a3)), (4, (0, r2)), (5, (0, r10))]) rfl ?_
    exact oX10_isDouble_b30 (K := K) (fun r z => k0 r z) hr hk
  · have hr := ifp hr hc
    refine r_iconst dX10_isDouble_20 (by decide) ?_
    refine r_goto dX10_isDouble_21 (tgt := 30) (by decide) ?_
    refine r_sub [2, 3, 4, 5, 1, 0] (lv' := [(0, (13, a0)), (1, (0, a1)), (2, (0, a2)), (3, (0, a3)), (4, (0, r2)), (5, (0, r10))]) rfl ?_
    exact oX10_isDouble_b30 (K := K) (fun r z => k0 r z) hr hk
end M_X10_isDouble
theorem oX10_isDouble {l : Launch} {D : va_G} {G : gG} {h : hH} {a0 a1 a2 a3 : Int} {r : Int} (hr : fX10_isDouble h a0 a1 a2 a3 = some r) : Ctr l D G true yX10_isDouble M_X10_isDouble [(13, a0), (0, a1), (0, a2), (0, a3)] h (some (2, r), h) :=
  Ctr_of (by decide) rfl (fun z => by cases z) (nl rfl) (fun {p e R s m args below meth c A H0} => by
    exact oX10_isDouble_b0 (K := fun z9 => z9 = r) (fun r9 z => by rw [z]) hr rfl)
/-! X10_addKeys -/
theorem dX10_addKeys_0 : decode cX10_addKeys 0 = .ok (.aload_n 1, 1) := by decide +kernel
theorem dX10_addKeys_1 : decode cX10_addKeys 1 = .ok (.iload_n 3, 1) := by decide +kernel
theorem dX10_addKeys_2 : decode cX10_addKeys 2 = .ok (.iconst 0, 1) := by decide +kernel
theorem dX10_addKeys_3 : decode cX10_addKeys 3 = .ok (.invokevirtual 82, 3) := by decide +kernel
theorem dX10_addKeys_6 : decode cX10_addKeys 6 = .ok (.istore 4, 2) := by decide +kernel
theorem dX10_addKeys_8 : decode cX10_addKeys 8 = .ok (.aload_n 1, 1) := by decide +kernel
theorem dX10_addKeys_9 : decode cX10_addKeys 9 = .ok (.iload_n 3, 1) := by decide +kernel
theorem dX10_addKeys_10 : decode cX10_addKeys 10 = .ok (.iconst 1, 1) := by decide +kernel
theorem dX10_addKeys_11 : decode cX10_addKeys 11 = .ok (.invokevirtual 82, 3) := by decide +kernel
theorem dX10_addKeys_14 : decode cX10_addKeys 14 = .ok (.istore 5, 2) := by decide +kernel
theorem dX10_addKeys_16 : decode cX10_addKeys 16 = .ok (.aload_n 1, 1) := by decide +kernel
theorem dX10_addKeys_17 : decode cX10_addKeys 17 = .ok (.iload_n 3, 1) := by decide +kernel
theorem dX10_addKeys_18 : decode cX10_addKeys 18 = .ok (.iconst 2, 1) := by decide +kernel
theorem dX10_addKeys_19 : decode cX10_addKeys 19 = .ok (.invokevirtual 82, 3) := by decide +kernel
theorem dX10_addKeys_22 : decode cX10_addKeys 22 = .ok (.istore 6, 2) := by decide +kernel
theorem dX10_addKeys_24 : decode cX10_addKeys 24 = .ok (.iconst 0, 1) := by decide +kernel
theorem dX10_addKeys_25 : decode cX10_addKeys 25 = .ok (.istore 7, 2) := by decide +kernel
theorem dX10_addKeys_27 : decode cX10_addKeys 27 = .ok (.iload 7, 2) := by decide +kernel
theorem dX10_addKeys_29 : decode cX10_addKeys 29 = .ok (.aload_n 2, 1) := by decide +kernel
theorem dX10_addKeys_30 : decode cX10_addKeys 30 = .ok (.getfield 66, 3) := by decide +kernel
theorem dX10_addKeys_33 : decode cX10_addKeys 33 = .ok (.if_icmp .ge 45, 3) := by decide +kernel
theorem dX10_addKeys_36 : decode cX10_addKeys 36 = .ok (.aload_n 2, 1) := by decide +kernel
theorem dX10_addKeys_37 : decode cX10_addKeys 37 = .ok (.iload 7, 2) := by decide +kernel
theorem dX10_addKeys_39 : decode cX10_addKeys 39 = .ok (.invokevirtual 69, 3) := by decide +kernel
theorem dX10_addKeys_42 : decode cX10_addKeys 42 = .ok (.iload 4, 2) := by decide +kernel
theorem dX10_addKeys_44 : decode cX10_addKeys 44 = .ok (.if_icmp .ne 28, 3) := by decide +kernel
theorem dX10_addKeys_47 : decode cX10_addKeys 47 = .ok (.aload_n 2, 1) := by decide +kernel
theorem dX10_addKeys_48 : decode cX10_addKeys 48 = .ok (.iload 7, 2) := by decide +kernel
theorem dX10_addKeys_50 : decode cX10_addKeys 50 = .ok (.iload 5, 2) := by decide +kernel
theorem dX10_addKeys_52 : decode cX10_addKeys 52 = .ok (.iload 6, 2) := by decide +kernel
theorem dX10_addKeys_54 : decode cX10_addKeys 54 = .ok (.invokestatic 85, 3) := by decide +kernel
theorem dX10_addKeys_57 : decode cX10_addKeys 57 = .ok (.ifCond .eq 15, 3) := by decide +kernel
theorem dX10_addKeys_60 : decode cX10_addKeys 60 = .ok (.aload_n 0, 1) := by decide +kernel
theorem dX10_addKeys_61 : decode cX10_addKeys 61 = .ok (.iconst 2, 1) := by decide +kernel
theorem dX10_addKeys_62 : decode cX10_addKeys 62 = .ok (.iload_n 3, 1) := by decide +kernel
theorem dX10_addKeys_63 : decode cX10_addKeys 63 = .ok (.aload_n 2, 1) := by decide +kernel
theorem dX10_addKeys_64 : decode cX10_addKeys 64 = .ok (.iload 7, 2) := by decide +kernel
theorem dX10_addKeys_66 : decode cX10_addKeys 66 = .ok (.invokevirtual 75, 3) := by decide +kernel
theorem dX10_addKeys_69 : decode cX10_addKeys 69 = .ok (.invokevirtual 78, 3) := by decide +kernel
theorem dX10_addKeys_72 : decode cX10_addKeys 72 = .ok (.iinc 7 1, 3) := by decide +kernel
theorem dX10_addKeys_75 : decode cX10_addKeys 75 = .ok (.goto (-48), 3) := by decide +kernel
theorem dX10_addKeys_78 : decode cX10_addKeys 78 = .ok (.return_, 1) := by decide +kernel
abbrev M_X10_addKeys : mM := (cX10_addKeys, 8, RX10, none, false, 2, 50, 0, 0)
theorem gX10_addKeys : cI yX10_addKeys M_X10_addKeys 3 := ⟨(wsl_38 _ (List.mem_of_getElem? (i := 16) rfl)), (wsl_38 _ (List.mem_of_getElem? (i := 17) rfl)), (wsl_6 _ (List.mem_of_getElem? (i := 0) rfl)), (wsl_38 _ (List.mem_of_getElem? (i := 18) rfl)), by decide +kernel⟩
noncomputable def fX10_addKeys_s27 (h0 : hH) (a0 a2 a3 l4 l5 l6 : Int) : hH × Int → Option ((hH × Int) ⊕ (hH)) := fun (h, l7) =>
  if l7 < h a2 0 then
    (fX3_tableAt h a2 l7).bind fun r39 =>
    if r39 = l4 then
      (fX10_isDouble h a2 l7 l5 l6).bind fun r54 =>
      if r54 = 0 then
        some (.inl (h, w32 (l7 + 1)))
      else
        (fX3_numberAt h a2 l7).bind fun r66 =>
        (fX10_add h a0 2 a3 r66).bind fun h69 =>
        some (.inl (h69, w32 (l7 + 1)))
    else
      some (.inl (h, w32 (l7 + 1)))
  else
    some (.inr (h))
noncomputable def fX10_addKeys (h : hH) (a0 a1 a2 a3 : Int) : Option (hH) :=
  (fX4_keyPart h a1 a3 0).bind fun r3 =>
  (fX4_keyPart h a1 a3 1).bind fun r11 =>
  (fX4_keyPart h a1 a3 2).bind fun r19 =>
  lpO (fX10_addKeys_s27 h a0 a2 a3 r3 r11 r19) (h, 0)
section M_X10_addKeys
variable {p : Program} {l : Launch} {e : Env} {R : Room} {s : State} {m : MethodId} {args : Array Value} {below : List Frame} {meth : Method} {c : Code} {D : va_G} {G : gG} {A : Nat → Prop} {H0 : Heap} {n0 : Int} {x : Option vV × hH} {h : hH}
set_option maxRecDepth 100000 in
set_option maxHeartbeats 4000000 in
theorem oX10_addKeys_s27 {h0 : hH} {a0 a2 a3 l4 l5 l6 l7 : Int} {K : (hH × Int) ⊕ (hH) → Prop} (k0 : ∀ r, K (.inr (r)) → x = (none, r)) (k1 : ∀ (h : hH) (l7 : Int), K (.inl (h, l7)) → Wq p l e R s m args below meth c D G A H0 true n0 M_X10_addKeys x 0 0 27 [(0, (20, a0)), (2, (13, a2)), (3, (0, a3)), (4, (0, l4)), (5, (0, l5)), (6, (0, l6)), (7, (0, l7))] [] h) {r : (hH × Int) ⊕ (hH)} (hr : fX10_addKeys_s27 h0 a0 a2 a3 l4 l5 l6 (h, l7) = some r) (hk : K r) : Wq p l e R s m args below meth c D G A H0 true n0 M_X10_addKeys x 0 0 27 [(0, (20, a0)), (2, (13, a2)), (3, (0, a3)), (4, (0, l4)), (5, (0, l5)), (6, (0, l6)), (7, (0, l7))] [] h := by
  unfold fX10_addKeys_s27 at hr
  refine r_iload dX10_addKeys_27 6 rfl (Or.inl rfl) ?_
  refine r_aload_n dX10_addKeys_29 rfl 1 rfl (nl rfl) ?_
  refine r_get 3 0 (o := a2) (w := (0, h a2 0)) (T := TX3) (ref := "FollowingRefs$Rows") rfl (by decide) rfl (by decide) inlX3 (wsl_38 _ (List.mem_of_getElem? (i := 7) rfl)) rfl dX10_addKeys_30 rfl ?_
  refine r_icmp_ge dX10_addKeys_33 (tgt := 78) (by decide) (fun hc => ?_) (fun hc => ?_)
  · have hr := ifn hr hc
    obtain rfl := Option.some.inj hr
    exact r_vret dX10_addKeys_78 rfl (k0 _ hk) ⟨rfl, rfl⟩
  · have hr := ifp hr hc
    refine r_aload_n dX10_addKeys_36 rfl 1 rfl (nl rfl) ?_
    refine r_iload dX10_addKeys_37 6 rfl (Or.inl rfl) ?_
    obtain ⟨r39, hg39, hr⟩ := bnd hr
    refine k_V (ci := 3) (o := a2) (T := TX3) (as := [(0, l7)]) (rest := []) (X := (some (0, r39), h)) (oX3_tableAt hg39) gX3_tableAt rfl (by decide) rfl (wsl_38 _ (List.mem_of_getElem? (i := 8) rfl)) rfl dX10_addKeys_39 rfl ?_
    refine r_iload dX10_addKeys_42 3 rfl (Or.inl rfl) ?_
    refine r_icmp_ne dX10_addKeys_44 (tgt := 72) (by decide) (fun hc => ?_) (fun hc => ?_)
    · have hr := ifn hr hc
      refine r_iinc (k := 6) (v := l7) dX10_addKeys_72 rfl (by decide) (lv' := [(7, (0, w32 (l7 + 1))), (0, (20, a0)), (2, (13, a2)), (3, (0, a3)), (4, (0, l4)), (5, (0, l5)), (6, (0, l6))]) rfl ?_
      refine r_goto dX10_addKeys_75 (tgt := 27) (by decide) ?_
      refine r_sub [1, 2, 3, 4, 5, 6, 0] (lv' := [(0, (20, a0)), (2, (13, a2)), (3, (0, a3)), (4, (0, l4)), (5, (0, l5)), (6, (0, l6)), (7, (0, w32 (l7 + 1)))]) rfl ?_
      obtain rfl := Option.some.inj hr
      exact k1 _ _ hk
    · have hr := ifp hr hc
      refine r_aload_n dX10_addKeys_47 rfl 1 rfl (nl rfl) ?_
      refine r_iload dX10_addKeys_48 6 rfl (Or.inl rfl) ?_
      refine r_iload dX10_addKeys_50 4 rfl (Or.inl rfl) ?_
      refine r_iload dX10_addKeys_52 5 rfl (Or.inl rfl) ?_
      obtain ⟨r54, hg54, hr⟩ := bnd hr
      refine k_S (as := [(13, a2), (0, l7), (0, l5), (0, l6)]) (rest := []) (X := (some (2, r54), h)) (oX10_isDouble hg54) gX10_isDouble rfl (wsl_38 _ (List.mem_of_getElem? (i := 20) rfl)) rfl dX10_addKeys_54 rfl ?_
      refine r_scast 0 (v := (2, r54)) (w := (0, r54)) rfl zc hTz (st' := [(0, r54)]) rfl ?_
      refine r_if_eq dX10_addKeys_57 (tgt := 72) (by decide) (fun hc => ?_) (fun hc => ?_)
      · have hr := ifp hr hc
        refine r_iinc (k := 6) (v := l7) dX10_addKeys_72 rfl (by decide) (lv' := [(7, (0, w32 (l7 + 1))), (0, (20, a0)), (2, (13, a2)), (3, (0, a3)), (4, (0, l4)), (5, (0, l5)), (6, (0, l6))]) rfl ?_
        refine r_goto dX10_addKeys_75 (tgt := 27) (by decide) ?_
        refine r_sub [1, 2, 3, 4, 5, 6, 0] (lv' := [(0, (20, a0)), (2, (13, a2)), (3, (0, a3)), (4, (0, l4)), (5, (0, l5)), (6, (0, l6)), (7, (0, w32 (l7 + 1)))]) rfl ?_
        obtain rfl := Option.some.inj hr
        exact k1 _ _ hk
      · have hr := ifn hr hc
        refine r_aload_n dX10_addKeys_60 rfl 0 rfl (nl rfl) ?_
        refine r_iconst dX10_addKeys_61 (by decide) ?_
        refine r_iload_n dX10_addKeys_62 rfl 2 rfl (Or.inl rfl) ?_
        refine r_aload_n dX10_addKeys_63 rfl 1 rfl (nl rfl) ?_
        refine r_iload dX10_addKeys_64 6 rfl (Or.inl rfl) ?_
        obtain ⟨r66, hg66, hr⟩ := bnd hr
        refine k_V (ci := 3) (o := a2) (T := TX3) (as := [(0, l7)]) (rest := [(0, a3), (0, 2), (20, a0)]) (X := (some (0, r66), h)) (oX3_numberAt hg66) gX3_numberAt rfl (by decide) rfl (wsl_38 _ (List.mem_of_getElem? (i := 10) rfl)) rfl dX10_addKeys_66 rfl ?_
        obtain ⟨h69, hg69, hr⟩ := bnd hr
        refine k_V (ci := 10) (o := a0) (T := TX10) (as := [(0, 2), (0, a3), (0, r66)]) (rest := []) (X := (none, h69)) (oX10_add hg69) gX10_add rfl (by decide) rfl (wsl_38 _ (List.mem_of_getElem? (i := 11) rfl)) rfl dX10_addKeys_69 rfl ?_
        refine r_iinc (k := 6) (v := l7) dX10_addKeys_72 rfl (by decide) (lv' := [(7, (0, w32 (l7 + 1))), (0, (20, a0)), (2, (13, a2)), (3, (0, a3)), (4, (0, l4)), (5, (0, l5)), (6, (0, l6))]) rfl ?_
        refine r_goto dX10_addKeys_75 (tgt := 27) (by decide) ?_
        refine r_sub [1, 2, 3, 4, 5, 6, 0] (lv' := [(0, (20, a0)), (2, (13, a2)), (3, (0, a3)), (4, (0, l4)), (5, (0, l5)), (6, (0, l6)), (7, (0, w32 (l7 + 1)))]) rfl ?_
        obtain rfl := Option.some.inj hr
        exact k1 _ _ hk
set_option maxRecDepth 100000 in
set_option maxHeartbeats 4000000 in
theorem oX10_addKeys_b0 {a0 a1 a2 a3 : Int} {K : hH → Prop} (k0 : ∀ r, K (r) → x = (none, r)) {r : hH} (hr : fX10_addKeys h a0 a1 a2 a3 = some r) (hk : K r) : Wq p l e R s m args below meth c D G A H0 true n0 M_X10_addKeys x 0 0 0 [(0, (20, a0)), (1, (14, a1)), (2, (13, a2)), (3, (0, a3))] [] h := by
  unfold fX10_addKeys at hr
  refine r_aload_n dX10_addKeys_0 rfl 1 rfl (nl rfl) ?_
  refine r_iload_n dX10_addKeys_1 rfl 3 rfl (Or.inl rfl) ?_
  refine r_iconst dX10_addKeys_2 (by decide) ?_
  obtain ⟨r3, hg3, hr⟩ := bnd hr
  refine k_V (ci := 4) (o := a1) (T := TX4) (as := [(0, a3), (0, 0)]) (rest := []) (X := (some (0, r3), h)) (oX4_keyPart hg3) gX4_keyPart rfl (by decide) rfl (wsl_38 _ (List.mem_of_getElem? (i := 19) rfl)) rfl dX10_addKeys_3 rfl ?_
  refine r_istore dX10_addKeys_6 (Or.inl rfl) (by decide) (lv' := [(4, (0, r3)), (0, (20, a0)), (1, (14, a1)), (2, (13, a2)), (3, (0, a3))]) rfl ?_
  refine r_aload_n dX10_addKeys_8 rfl 2 rfl (nl rfl) ?_
  refine r_iload_n dX10_addKeys_9 rfl 4 rfl (Or.inl rfl) ?_
  refine r_iconst dX10_addKeys_10 (by decide) ?_
  obtain ⟨r11, hg11, hr⟩ := bnd hr
  refine k_V (ci := 4) (o := a1) (T := TX4) (as := [(0, a3), (0, 1)]) (rest := []) (X := (some (0, r11), h)) (oX4_keyPart hg11) gX4_keyPart rfl (by decide) rfl (wsl_38 _ (List.mem_of_getElem? (i := 19) rfl)) rfl dX10_addKeys_11 rfl ?_
  refine r_istore dX10_addKeys_14 (Or.inl rfl) (by decide) (lv' := [(5, (0, r11)), (4, (0, r3)), (0, (20, a0)), (1, (14, a1)), (2, (13, a2)), (3, (0, a3))]) rfl ?_
  refine r_aload_n dX10_addKeys_16 rfl 3 rfl (nl rfl) ?_
  refine r_iload_n dX10_addKeys_17 rfl 5 rfl (Or.inl rfl) ?_
  refine r_iconst dX10_addKeys_18 (by decide) ?_
  obtain ⟨r19, hg19, hr⟩ := bnd hr
  refine k_V (ci := 4) (o := a1) (T := TX4) (as := [(0, a3), (0, 2)]) (rest := []) (X := (some (0, r19), h)) (oX4_keyPart hg19) gX4_keyPart rfl (by decide) rfl (wsl_38 _ (List.mem_of_getElem? (i := 19) rfl)) rfl dX10_addKeys_19 rfl ?_
  refine r_istore dX10_addKeys_22 (Or.inl rfl) (by decide) (lv' := [(6, (0, r19)), (5, (0, r11)), (4, (0, r3)), (0, (20, a0)), (1, (14, a1)), (2, (13, a2)), (3, (0, a3))]) rfl ?_
  refine r_iconst dX10_addKeys_24 (by decide) ?_
  refine r_istore dX10_addKeys_25 (Or.inl rfl) (by decide) (lv' := [(7, (0, 0)), (6, (0, r19)), (5, (0, r11)), (4, (0, r3)), (0, (20, a0)), (1, (14, a1)), (2, (13, a2)), (3, (0, a3))]) rfl ?_
  refine r_sub [4, 6, 7, 3, 2, 1, 0] (lv' := [(0, (20, a0)), (2, (13, a2)), (3, (0, a3)), (4, (0, r3)), (5, (0, r11)), (6, (0, r19)), (7, (0, 0))]) rfl ?_
  exact lp_ok (w := fun (q : hH × Int) => Wq p l e R s m args below meth c D G A H0 true n0 M_X10_addKeys x 0 0 27 [(0, (20, a0)), (2, (13, a2)), (3, (0, a3)), (4, (0, r3)), (5, (0, r11)), (6, (0, r19)), (7, (0, q.2))] [] (q.1)) (K := K) (fun ⟨q0, q1⟩ r h1 h2 => oX10_addKeys_s27 (K := Sum.elim (fun (q : hH × Int) => Wq p l e R s m args below meth c D G A H0 true n0 M_X10_addKeys x 0 0 27 [(0, (20, a0)), (2, (13, a2)), (3, (0, a3)), (4, (0, r3)), (5, (0, r11)), (6, (0, r19)), (7, (0, q.2))] [] (q.1)) (K)) (fun r z => k0 r z) (fun _ _ z => z) h1 h2) hr hk
end M_X10_addKeys
theorem oX10_addKeys {l : Launch} {D : va_G} {G : gG} {h : hH} {a0 a1 a2 a3 : Int} {r : hH} (hr : fX10_addKeys h a0 a1 a2 a3 = some r) : Ctr l D G true yX10_addKeys M_X10_addKeys [(20, a0), (14, a1), (13, a2), (0, a3)] h (none, r) :=
  Ctr_of (by decide) rfl (fun z => by cases z) (nl rfl) (fun {p e R s m args below meth c A H0} => by
    exact oX10_addKeys_b0 (K := fun z9 => z9 = r) (fun r9 z => by rw [z]) hr rfl)
/-! X10_addRefs -/
theorem dX10_addRefs_0 : decode cX10_addRefs 0 = .ok (.aload_n 1, 1) := by decide +kernel
theorem dX10_addRefs_1 : decode cX10_addRefs 1 = .ok (.iload_n 3, 1) := by decide +kernel
theorem dX10_addRefs_2 : decode cX10_addRefs 2 = .ok (.iconst 0, 1) := by decide +kernel
theorem dX10_addRefs_3 : decode cX10_addRefs 3 = .ok (.invokevirtual 46, 3) := by decide +kernel
theorem dX10_addRefs_6 : decode cX10_addRefs 6 = .ok (.istore 4, 2) := by decide +kernel
theorem dX10_addRefs_8 : decode cX10_addRefs 8 = .ok (.aload_n 1, 1) := by decide +kernel
theorem dX10_addRefs_9 : decode cX10_addRefs 9 = .ok (.iload_n 3, 1) := by decide +kernel
theorem dX10_addRefs_10 : decode cX10_addRefs 10 = .ok (.bipush 7, 2) := by decide +kernel
theorem dX10_addRefs_12 : decode cX10_addRefs 12 = .ok (.invokevirtual 46, 3) := by decide +kernel
theorem dX10_addRefs_15 : decode cX10_addRefs 15 = .ok (.istore 5, 2) := by decide +kernel
theorem dX10_addRefs_17 : decode cX10_addRefs 17 = .ok (.aload_n 1, 1) := by decide +kernel
theorem dX10_addRefs_18 : decode cX10_addRefs 18 = .ok (.iload_n 3, 1) := by decide +kernel
theorem dX10_addRefs_19 : decode cX10_addRefs 19 = .ok (.bipush 8, 2) := by decide +kernel
theorem dX10_addRefs_21 : decode cX10_addRefs 21 = .ok (.invokevirtual 46, 3) := by decide +kernel
theorem dX10_addRefs_24 : decode cX10_addRefs 24 = .ok (.istore 6, 2) := by decide +kernel
theorem dX10_addRefs_26 : decode cX10_addRefs 26 = .ok (.aload_n 1, 1) := by decide +kernel
theorem dX10_addRefs_27 : decode cX10_addRefs 27 = .ok (.iload_n 3, 1) := by decide +kernel
theorem dX10_addRefs_28 : decode cX10_addRefs 28 = .ok (.iconst 5, 1) := by decide +kernel
theorem dX10_addRefs_29 : decode cX10_addRefs 29 = .ok (.invokevirtual 46, 3) := by decide +kernel
theorem dX10_addRefs_32 : decode cX10_addRefs 32 = .ok (.iconst 1, 1) := by decide +kernel
theorem dX10_addRefs_33 : decode cX10_addRefs 33 = .ok (.if_icmp .ne 7, 3) := by decide +kernel
theorem dX10_addRefs_36 : decode cX10_addRefs 36 = .ok (.iconst 1, 1) := by decide +kernel
theorem dX10_addRefs_37 : decode cX10_addRefs 37 = .ok (.goto 4, 3) := by decide +kernel
theorem dX10_addRefs_40 : decode cX10_addRefs 40 = .ok (.iconst 0, 1) := by decide +kernel
theorem dX10_addRefs_41 : decode cX10_addRefs 41 = .ok (.istore 7, 2) := by decide +kernel
theorem dX10_addRefs_43 : decode cX10_addRefs 43 = .ok (.iconst 0, 1) := by decide +kernel
theorem dX10_addRefs_44 : decode cX10_addRefs 44 = .ok (.istore 8, 2) := by decide +kernel
theorem dX10_addRefs_46 : decode cX10_addRefs 46 = .ok (.iload 8, 2) := by decide +kernel
theorem dX10_addRefs_48 : decode cX10_addRefs 48 = .ok (.aload_n 2, 1) := by decide +kernel
theorem dX10_addRefs_49 : decode cX10_addRefs 49 = .ok (.getfield 66, 3) := by decide +kernel
theorem dX10_addRefs_52 : decode cX10_addRefs 52 = .ok (.if_icmp .ge 125, 3) := by decide +kernel
theorem dX10_addRefs_55 : decode cX10_addRefs 55 = .ok (.aload_n 2, 1) := by decide +kernel
theorem dX10_addRefs_56 : decode cX10_addRefs 56 = .ok (.iload 8, 2) := by decide +kernel
theorem dX10_addRefs_58 : decode cX10_addRefs 58 = .ok (.invokevirtual 69, 3) := by decide +kernel
theorem dX10_addRefs_61 : decode cX10_addRefs 61 = .ok (.iload 4, 2) := by decide +kernel
theorem dX10_addRefs_63 : decode cX10_addRefs 63 = .ok (.if_icmp .eq 6, 3) := by decide +kernel
theorem dX10_addRefs_66 : decode cX10_addRefs 66 = .ok (.goto 105, 3) := by decide +kernel
theorem dX10_addRefs_69 : decode cX10_addRefs 69 = .ok (.aload_n 2, 1) := by decide +kernel
theorem dX10_addRefs_70 : decode cX10_addRefs 70 = .ok (.iload 8, 2) := by decide +kernel
theorem dX10_addRefs_72 : decode cX10_addRefs 72 = .ok (.iload 5, 2) := by decide +kernel
theorem dX10_addRefs_74 : decode cX10_addRefs 74 = .ok (.invokevirtual 72, 3) := by decide +kernel
theorem dX10_addRefs_77 : decode cX10_addRefs 77 = .ok (.iconst (-1), 1) := by decide +kernel
theorem dX10_addRefs_78 : decode cX10_addRefs 78 = .ok (.if_icmp .ne 7, 3) := by decide +kernel
theorem dX10_addRefs_81 : decode cX10_addRefs 81 = .ok (.iconst 1, 1) := by decide +kernel
theorem dX10_addRefs_82 : decode cX10_addRefs 82 = .ok (.goto 4, 3) := by decide +kernel
theorem dX10_addRefs_85 : decode cX10_addRefs 85 = .ok (.iconst 0, 1) := by decide +kernel
theorem dX10_addRefs_86 : decode cX10_addRefs 86 = .ok (.istore 9, 2) := by decide +kernel
theorem dX10_addRefs_88 : decode cX10_addRefs 88 = .ok (.iload 6, 2) := by decide +kernel
theorem dX10_addRefs_90 : decode cX10_addRefs 90 = .ok (.iconst (-1), 1) := by decide +kernel
theorem dX10_addRefs_91 : decode cX10_addRefs 91 = .ok (.if_icmp .ne 8, 3) := by decide +kernel
theorem dX10_addRefs_94 : decode cX10_addRefs 94 = .ok (.iload 9, 2) := by decide +kernel
theorem dX10_addRefs_96 : decode cX10_addRefs 96 = .ok (.goto 20, 3) := by decide +kernel
theorem dX10_addRefs_99 : decode cX10_addRefs 99 = .ok (.aload_n 2, 1) := by decide +kernel
theorem dX10_addRefs_100 : decode cX10_addRefs 100 = .ok (.iload 8, 2) := by decide +kernel
theorem dX10_addRefs_102 : decode cX10_addRefs 102 = .ok (.iload 6, 2) := by decide +kernel
theorem dX10_addRefs_104 : decode cX10_addRefs 104 = .ok (.invokevirtual 72, 3) := by decide +kernel
theorem dX10_addRefs_107 : decode cX10_addRefs 107 = .ok (.iconst (-1), 1) := by decide +kernel
theorem dX10_addRefs_108 : decode cX10_addRefs 108 = .ok (.if_icmp .ne 7, 3) := by decide +kernel
theorem dX10_addRefs_111 : decode cX10_addRefs 111 = .ok (.iconst 1, 1) := by decide +kernel
theorem dX10_addRefs_112 : decode cX10_addRefs 112 = .ok (.goto 4, 3) := by decide +kernel
theorem dX10_addRefs_115 : decode cX10_addRefs 115 = .ok (.iconst 0, 1) := by decide +kernel
theorem dX10_addRefs_116 : decode cX10_addRefs 116 = .ok (.istore 10, 2) := by decide +kernel
theorem dX10_addRefs_118 : decode cX10_addRefs 118 = .ok (.iload 9, 2) := by decide +kernel
theorem dX10_addRefs_120 : decode cX10_addRefs 120 = .ok (.iload 10, 2) := by decide +kernel
theorem dX10_addRefs_122 : decode cX10_addRefs 122 = .ok (.if_icmp .eq 8, 3) := by decide +kernel
theorem dX10_addRefs_125 : decode cX10_addRefs 125 = .ok (.iload 7, 2) := by decide +kernel
theorem dX10_addRefs_127 : decode cX10_addRefs 127 = .ok (.goto 25, 3) := by decide +kernel
theorem dX10_addRefs_130 : decode cX10_addRefs 130 = .ok (.iload 9, 2) := by decide +kernel
theorem dX10_addRefs_132 : decode cX10_addRefs 132 = .ok (.ifCond .ne 19, 3) := by decide +kernel
theorem dX10_addRefs_135 : decode cX10_addRefs 135 = .ok (.aload_n 2, 1) := by decide +kernel
theorem dX10_addRefs_136 : decode cX10_addRefs 136 = .ok (.aload_n 1, 1) := by decide +kernel
theorem dX10_addRefs_137 : decode cX10_addRefs 137 = .ok (.iload 8, 2) := by decide +kernel
theorem dX10_addRefs_139 : decode cX10_addRefs 139 = .ok (.iload_n 3, 1) := by decide +kernel
theorem dX10_addRefs_140 : decode cX10_addRefs 140 = .ok (.invokevirtual 89, 3) := by decide +kernel
theorem dX10_addRefs_143 : decode cX10_addRefs 143 = .ok (.iconst (-1), 1) := by decide +kernel
theorem dX10_addRefs_144 : decode cX10_addRefs 144 = .ok (.if_icmp .ne 7, 3) := by decide +kernel
theorem dX10_addRefs_147 : decode cX10_addRefs 147 = .ok (.iconst 1, 1) := by decide +kernel
theorem dX10_addRefs_148 : decode cX10_addRefs 148 = .ok (.goto 4, 3) := by decide +kernel
theorem dX10_addRefs_151 : decode cX10_addRefs 151 = .ok (.iconst 0, 1) := by decide +kernel
theorem dX10_addRefs_152 : decode cX10_addRefs 152 = .ok (.istore 11, 2) := by decide +kernel
theorem dX10_addRefs_154 : decode cX10_addRefs 154 = .ok (.iload 11, 2) := by decide +kernel
theorem dX10_addRefs_156 : decode cX10_addRefs 156 = .ok (.ifCond .eq 15, 3) := by decide +kernel
theorem dX10_addRefs_159 : decode cX10_addRefs 159 = .ok (.aload_n 0, 1) := by decide +kernel
theorem dX10_addRefs_160 : decode cX10_addRefs 160 = .ok (.iconst 3, 1) := by decide +kernel
theorem dX10_addRefs_161 : decode cX10_addRefs 161 = .ok (.iload_n 3, 1) := by decide +kernel
theorem dX10_addRefs_162 : decode cX10_addRefs 162 = .ok (.aload_n 2, 1) := by decide +kernel
theorem dX10_addRefs_163 : decode cX10_addRefs 163 = .ok (.iload 8, 2) := by decide +kernel
theorem dX10_addRefs_165 : decode cX10_addRefs 165 = .ok (.invokevirtual 75, 3) := by decide +kernel
theorem dX10_addRefs_168 : decode cX10_addRefs 168 = .ok (.invokevirtual 78, 3) := by decide +kernel
theorem dX10_addRefs_171 : decode cX10_addRefs 171 = .ok (.iinc 8 1, 3) := by decide +kernel
theorem dX10_addRefs_174 : decode cX10_addRefs 174 = .ok (.goto (-128), 3) := by decide +kernel
theorem dX10_addRefs_177 : decode cX10_addRefs 177 = .ok (.return_, 1) := by decide +kernel
abbrev M_X10_addRefs : mM := (cX10_addRefs, 12, RX10, none, false, 3, 74, 0, 0)
theorem gX10_addRefs : cI yX10_addRefs M_X10_addRefs 3 := ⟨(wsl_39 _ (List.mem_of_getElem? (i := 1) rfl)), (wsl_39 _ (List.mem_of_getElem? (i := 2) rfl)), (wsl_6 _ (List.mem_of_getElem? (i := 0) rfl)), (wsl_39 _ (List.mem_of_getElem? (i := 3) rfl)), by decide +kernel⟩
noncomputable def fX10_addRefs_b152 (h : hH) (a0 a1 a2 a3 l4 l5 l6 l7 l8 s0 : Int) : Option ((hH × Int) ⊕ (hH)) :=
  if s0 = 0 then
    some (.inl (h, w32 (l8 + 1)))
  else
    (fX3_numberAt h a2 l8).bind fun r165 =>
    (fX10_add h a0 3 a3 r165).bind fun h168 =>
    some (.inl (h168, w32 (l8 + 1)))
noncomputable def fX10_addRefs_b151 (h : hH) (a0 a1 a2 a3 l4 l5 l6 l7 l8 : Int) : Option ((hH × Int) ⊕ (hH)) :=
  fX10_addRefs_b152 h a0 a1 a2 a3 l4 l5 l6 l7 l8 0
noncomputable def fX10_addRefs_b116 (h : hH) (a0 a1 a2 a3 l4 l5 l6 l7 l8 l9 s0 : Int) : Option ((hH × Int) ⊕ (hH)) :=
  if l9 = s0 then
    if l9 = 0 then
      (fX3_aim h a2 a1 l8 a3).bind fun r140 =>
      if r140 = -1 then
        fX10_addRefs_b152 h a0 a1 a2 a3 l4 l5 l6 l7 l8 1
      else
        fX10_addRefs_b151 h a0 a1 a2 a3 l4 l5 l6 l7 l8
    else
      fX10_addRefs_b151 h a0 a1 a2 a3 l4 l5 l6 l7 l8
  else
    fX10_addRefs_b152 h a0 a1 a2 a3 l4 l5 l6 l7 l8 l7
noncomputable def fX10_addRefs_b86 (h : hH) (a0 a1 a2 a3 l4 l5 l6 l7 l8 s0 : Int) : Option ((hH × Int) ⊕ (hH)) :=
  if l6 = -1 then
    fX10_addRefs_b116 h a0 a1 a2 a3 l4 l5 l6 l7 l8 s0 s0
  else
    (fX3_value h a2 l8 l6).bind fun r104 =>
    if r104 = -1 then
      fX10_addRefs_b116 h a0 a1 a2 a3 l4 l5 l6 l7 l8 s0 1
    else
      fX10_addRefs_b116 h a0 a1 a2 a3 l4 l5 l6 l7 l8 s0 0
noncomputable def fX10_addRefs_s46 (h0 : hH) (a0 a1 a2 a3 l4 l5 l6 l7 : Int) : hH × Int → Option ((hH × Int) ⊕ (hH)) := fun (h, l8) =>
  if l8 < h a2 0 then
    (fX3_tableAt h a2 l8).bind fun r58 =>
    if r58 = l4 then
      (fX3_value h a2 l8 l5).bind fun r74 =>
      if r74 = -1 then
        fX10_addRefs_b86 h a0 a1 a2 a3 l4 l5 l6 l7 l8 1
      else
        fX10_addRefs_b86 h a0 a1 a2 a3 l4 l5 l6 l7 l8 0
    else
      some (.inl (h, w32 (l8 + 1)))
  else
    some (.inr (h))
noncomputable def fX10_addRefs_b41 (h : hH) (a0 a1 a2 a3 l4 l5 l6 s0 : Int) : Option (hH) :=
  lpO (fX10_addRefs_s46 h a0 a1 a2 a3 l4 l5 l6 s0) (h, 0)
noncomputable def fX10_addRefs (h : hH) (a0 a1 a2 a3 : Int) : Option (hH) :=
  (fX4_refPart h a1 a3 0).bind fun r3 =>
  (fX4_refPart h a1 a3 7).bind fun r12 =>
  (fX4_refPart h a1 a3 8).bind fun r21 =>
  (fX4_refPart h a1 a3 5).bind fun r29 =>
  if r29 = 1 then
    fX10_addRefs_b41 h a0 a1 a2 a3 r3 r12 r21 1
  else
    fX10_addRefs_b41 h a0 a1 a2 a3 r3 r12 r21 0
section M_X10_addRefs
variable {p : Program} {l : Launch} {e : Env} {R : Room} {s : State} {m : MethodId} {args : Array Value} {below : List Frame} {meth : Method} {c : Code} {D : va_G} {G : gG} {A : Nat → Prop} {H0 : Heap} {n0 : Int} {x : Option vV × hH} {h : hH}
set_option maxRecDepth 100000 in
set_option maxHeartbeats 4000000 in
theorem oX10_addRefs_b152 {a0 a1 a2 a3 l4 l5 l6 l7 l8 s0 : Int} {K : (hH × Int) ⊕ (hH) → Prop} (k0 : ∀ r, K (.inr (r)) → x = (none, r)) (k1 : ∀ (h : hH) (l8 : Int), K (.inl (h, l8)) → Wq p l e R s m args below meth c D G A H0 true n0 M_X10_addRefs x 0 0 46 [(0, (20, a0)), (1, (14, a1)), (2, (13, a2)), (3, (0, a3)), (4, (0, l4)), (5, (0, l5)), (6, (0, l6)), (7, (2, l7)), (8, (0, l8))] [] h) {r : (hH × Int) ⊕ (hH)} (hr : fX10_addRefs_b152 h a0 a1 a2 a3 l4 l5 l6 l7 l8 s0 = some r) (hk : K r) : Wq p l e R s m args below meth c D G A H0 true n0 M_X10_addRefs x 0 0 152 [(0, (20, a0)), (1, (14, a1)), (2, (13, a2)), (3, (0, a3)), (4, (0, l4)), (5, (0, l5)), (6, (0, l6)), (7, (2, l7)), (8, (0, l8))] [(2, s0)] h := by
  unfold fX10_addRefs_b152 at hr
  refine r_istore dX10_addRefs_152 (Or.inr rfl) (by decide) (lv' := [(11, (2, s0)), (0, (20, a0)), (1, (14, a1)), (2, (13, a2)), (3, (0, a3)), (4, (0, l4)), (5, (0, l5)), (6, (0, l6)), (7, (2, l7)), (8, (0, l8))]) rfl ?_
  refine r_iload dX10_addRefs_154 0 rfl (Or.inr rfl) ?_
  refine r_scast 0 (v := (2, s0)) (w := (0, s0)) rfl zc hTz (st' := [(0, s0)]) rfl ?_
  refine r_if_eq dX10_addRefs_156 (tgt := 171) (by decide) (fun hc => ?_) (fun hc => ?_)
  · have hr := ifp hr hc
    refine r_iinc (k := 9) (v := l8) dX10_addRefs_171 rfl (by decide) (lv' := [(8, (0, w32 (l8 + 1))), (11, (2, s0)), (0, (20, a0)), (1, (14, a1)), (2, (13, a2)), (3, (0, a3)), (4, (0, l4)), (5, (0, l5)), (6, (0, l6)), (7, (2, l7))]) rfl ?_
    refine r_goto dX10_addRefs_174 (tgt := 46) (by decide) ?_
    refine r_sub [2, 3, 4, 5, 6, 7, 8, 9, 0] (lv' := [(0, (20, a0)), (1, (14, a1)), (2, (13, a2)), (3, (0, a3)), (4, (0, l4)), (5, (0, l5)), (6, (0, l6)), (7, (2, l7)), (8, (0, w32 (l8 + 1)))]) rfl ?_
    obtain rfl := Option.some.inj hr
    exact k1 _ _ hk
  · have hr := ifn hr hc
    refine r_aload_n dX10_addRefs_159 rfl 1 rfl (nl rfl) ?_
    refine r_iconst dX10_addRefs_160 (by decide) ?_
    refine r_iload_n dX10_addRefs_161 rfl 4 rfl (Or.inl rfl) ?_
    refine r_aload_n dX10_addRefs_162 rfl 3 rfl (nl rfl) ?_
    refine r_iload dX10_addRefs_163 9 rfl (Or.inl rfl) ?_
    obtain ⟨r165, hg165, hr⟩ := bnd hr
    refine k_V (ci := 3) (o := a2) (T := TX3) (as := [(0, l8)]) (rest := [(0, a3), (0, 3), (20, a0)]) (X := (some (0, r165), h)) (oX3_numberAt hg165) gX3_numberAt rfl (by decide) rfl (wsl_38 _ (List.mem_of_getElem? (i := 10) rfl)) rfl dX10_addRefs_165 rfl ?_
    obtain ⟨h168, hg168, hr⟩ := bnd hr
    refine k_V (ci := 10) (o := a0) (T := TX10) (as := [(0, 3), (0, a3), (0, r165)]) (rest := []) (X := (none, h168)) (oX10_add hg168) gX10_add rfl (by decide) rfl (wsl_38 _ (List.mem_of_getElem? (i := 11) rfl)) rfl dX10_addRefs_168 rfl ?_
    refine r_iinc (k := 9) (v := l8) dX10_addRefs_171 rfl (by decide) (lv' := [(8, (0, w32 (l8 + 1))), (11, (2, s0)), (0, (20, a0)), (1, (14, a1)), (2, (13, a2)), (3, (0, a3)), (4, (0, l4)), (5, (0, l5)), (6, (0, l6)), (7, (2, l7))]) rfl ?_
    refine r_goto dX10_addRefs_174 (tgt := 46) (by decide) ?_
    refine r_sub [2, 3, 4, 5, 6, 7, 8, 9, 0] (lv' := [(0, (20, a0)), (1, (14, a1)), (2, (13, a2)), (3, (0, a3)), (4, (0, l4)), (5, (0, l5)), (6, (0, l6)), (7, (2, l7)), (8, (0, w32 (l8 + 1)))]) rfl ?_
    obtain rfl := Option.some.inj hr
    exact k1 _ _ hk
set_option maxRecDepth 100000 in
set_option maxHeartbeats 4000000 in
theorem oX10_addRefs_b151 {a0 a1 a2 a3 l4 l5 l6 l7 l8 : Int} {K : (hH × Int) ⊕ (hH) → Prop} (k0 : ∀ r, K (.inr (r)) → x = (none, r)) (k1 : ∀ (h : hH) (l8 : Int), K (.inl (h, l8)) → Wq p l e R s m args below meth c D G A H0 true n0 M_X10_addRefs x 0 0 46 [(0, (20, a0)), (1, (14, a1)), (2, (13, a2)), (3, (0, a3)), (4, (0, l4)), (5, (0, l5)), (6, (0, l6)), (7, (2, l7)), (8, (0, l8))] [] h) {r : (hH × Int) ⊕ (hH)} (hr : fX10_addRefs_b151 h a0 a1 a2 a3 l4 l5 l6 l7 l8 = some r) (hk : K r) : Wq p l e R s m args below meth c D G A H0 true n0 M_X10_addRefs x 0 0 151 [(0, (20, a0)), (1, (14, a1)), (2, (13, a2)), (3, (0, a3)), (4, (0, l4)), (5, (0, l5)), (6, (0, l6)), (7, (2, l7)), (8, (0, l8))] [] h := by
  unfold fX10_addRefs_b151 at hr
  refine r_iconst dX10_addRefs_151 (by decide) ?_
  refine r_scast 0 (v := (0, 0)) (w := (2, 0)) rfl cz (fun _ => Or.inl rfl) (st' := [(2, 0)]) rfl ?_
  exact oX10_addRefs_b152 (K := K) (fun r z => k0 r z) (fun _ _ z => k1 _ _ z) hr hk
set_option maxRecDepth 100000 in
set_option maxHeartbeats 4000000 in
theorem oX10_addRefs_b116 {a0 a1 a2 a3 l4 l5 l6 l7 l8 l9 s0 : Int} {K : (hH × Int) ⊕ (hH) → Prop} (k0 : ∀ r, K (.inr (r)) → x = (none, r)) (k1 : ∀ (h : hH) (l8 : Int), K (.inl (h, l8)) → Wq p l e R s m args below meth c D G A H0 true n0 M_X10_addRefs x 0 0 46 [(0, (20, a0)), (1, (14, a1)), (2, (13, a2)), (3, (0, a3)), (4, (0, l4)), (5, (0, l5)), (6, (0, l6)), (7, (2, l7)), (8, (0, l8))] [] h) {r : (hH × Int) ⊕ (hH)} (hr : fX10_addRefs_b116 h a0 a1 a2 a3 l4 l5 l6 l7 l8 l9 s0 = some r) (hk : K r) : Wq p l e R s m args below meth c D G A H0 true n0 M_X10_addRefs x 0 0 116 [(0, (20, a0)), (1, (14, a1)), (2, (13, a2)), (3, (0, a3)), (4, (0, l4)), (5, (0, l5)), (6, (0, l6)), (7, (2, l7)), (8, (0, l8)), (9, (2, l9))] [(2, s0)] h := by
  unfold fX10_addRefs_b116 at hr
  refine r_istore dX10_addRefs_116 (Or.inr rfl) (by decide) (lv' := [(10, (2, s0)), (0, (20, a0)), (1, (14, a1)), (2, (13, a2)), (3, (0, a3)), (4, (0, l4)), (5, (0, l5)), (6, (0, l6)), (7, (2, l7)), (8, (0, l8)), (9, (2, l9))]) rfl ?_
  refine r_iload dX10_addRefs_118 10 rfl (Or.inr rfl) ?_
  refine r_iload dX10_addRefs_120 0 rfl (Or.inr rfl) ?_
  refine r_scast 0 (v := (2, s0)) (w := (0, s0)) rfl zc hTz (st' := [(0, s0), (2, l9)]) rfl ?_
  refine r_scast 1 (v := (2, l9)) (w := (0, l9)) rfl zc hTz (st' := [(0, s0), (0, l9)]) rfl ?_
  refine r_icmp_eq dX10_addRefs_122 (tgt := 130) (by decide) (fun hc => ?_) (fun hc => ?_)
  · have hr := ifp hr hc
    refine r_iload dX10_addRefs_130 10 rfl (Or.inr rfl) ?_
    refine r_scast 0 (v := (2, l9)) (w := (0, l9)) rfl zc hTz (st' := [(0, l9)]) rfl ?_
    refine r_if_ne dX10_addRefs_132 (tgt := 151) (by decide) (fun hc => ?_) (fun hc => ?_)
    · have hr := ifn hr hc
      refine r_sub [1, 2, 3, 4, 5, 6, 7, 8, 9] (lv' := [(0, (20, a0)), (1, (14, a1)), (2, (13, a2)), (3, (0, a3)), (4, (0, l4)), (5, (0, l5)), (6, (0, l6)), (7, (2, l7)), (8, (0, l8))]) rfl ?_
      exact oX10_addRefs_b151 (K := K) (fun r z => k0 r z) (fun _ _ z => k1 _ _ z) hr hk
    · have hr := ifp hr hc
      refine r_aload_n dX10_addRefs_135 rfl 3 rfl (nl rfl) ?_
      refine r_aload_n dX10_addRefs_136 rfl 2 rfl (nl rfl) ?_
      refine r_iload dX10_addRefs_137 9 rfl (Or.inl rfl) ?_
      refine r_iload_n dX10_addRefs_139 rfl 4 rfl (Or.inl rfl) ?_
      obtain ⟨r140, hg140, hr⟩ := bnd hr
      refine k_V (ci := 3) (o := a2) (T := TX3) (as := [(14, a1), (0, l8), (0, a3)]) (rest := []) (X := (some (0, r140), h)) (oX3_aim hg140) gX3_aim rfl (by decide) rfl (wsl_39 _ (List.mem_of_getElem? (i := 4) rfl)) rfl dX10_addRefs_140 rfl ?_
      refine r_iconst dX10_addRefs_143 (by decide) ?_
      refine r_icmp_ne dX10_addRefs_144 (tgt := 151) (by decide) (fun hc => ?_) (fun hc => ?_)
      · have hr := ifn hr hc
        refine r_sub [1, 2, 3, 4, 5, 6, 7, 8, 9] (lv' := [(0, (20, a0)), (1, (14, a1)), (2, (13, a2)), (3, (0, a3)), (4, (0, l4)), (5, (0, l5)), (6, (0, l6)), (7, (2, l7)), (8, (0, l8))]) rfl ?_
        exact oX10_addRefs_b151 (K := K) (fun r z => k0 r z) (fun _ _ z => k1 _ _ z) hr hk
      · have hr := ifp hr hc
        refine r_iconst dX10_addRefs_147 (by decide) ?_
        refine r_goto dX10_addRefs_148 (tgt := 152) (by decide) ?_
        refine r_sub [1, 2, 3, 4, 5, 6, 7, 8, 9] (lv' := [(0, (20, a0)), (1, (14, a1)), (2, (13, a2)), (3, (0, a3)), (4, (0, l4)), (5, (0, l5)), (6, (0, l6)), (7, (2, l7)), (8, (0, l8))]) rfl ?_
        refine r_scast 0 (v := (0, 1)) (w := (2, 1)) rfl cz (fun _ => Or.inr rfl) (st' := [(2, 1)]) rfl ?_
        exact oX10_addRefs_b152 (K := K) (fun r z => k0 r z) (fun _ _ z => k1 _ _ z) hr hk
  · have hr := ifn hr hc
    refine r_iload dX10_addRefs_125 8 rfl (Or.inr rfl) ?_
    refine r_goto dX10_addRefs_127 (tgt := 152) (by decide) ?_
    refine r_sub [1, 2, 3, 4, 5, 6, 7, 8, 9] (lv' := [(0, (20, a0)), (1, (14, a1)), (2, (13, a2)), (3, (0, a3)), (4, (0, l4)), (5, (0, l5)), (6, (0, l6)), (7, (2, l7)), (8, (0, l8))]) rfl ?_
    exact oX10_addRefs_b152 (K := K) (fun r z => k0 r z) (fun _ _ z => k1 _ _ z) hr hk
set_option maxRecDepth 100000 in
set_option maxHeartbeats 4000000 in
theorem oX10_addRefs_b86 {a0 a1 a2 a3 l4 l5 l6 l7 l8 s0 : Int} {K : (hH × Int) ⊕ (hH) → Prop} (k0 : ∀ r, K (.inr (r)) → x = (none, r)) (k1 : ∀ (h : hH) (l8 : Int), K (.inl (h, l8)) → Wq p l e R s m args below meth c D G A H0 true n0 M_X10_addRefs x 0 0 46 [(0, (20, a0)), (1, (14, a1)), (2, (13, a2)), (3, (0, a3)), (4, (0, l4)), (5, (0, l5)), (6, (0, l6)), (7, (2, l7)), (8, (0, l8))] [] h) {r : (hH × Int) ⊕ (hH)} (hr : fX10_addRefs_b86 h a0 a1 a2 a3 l4 l5 l6 l7 l8 s0 = some r) (hk : K r) : Wq p l e R s m args below meth c D G A H0 true n0 M_X10_addRefs x 0 0 86 [(0, (20, a0)), (1, (14, a1)), (2, (13, a2)), (3, (0, a3)), (4, (0, l4)), (5, (0, l5)), (6, (0, l6)), (7, (2, l7)), (8, (0, l8))] [(2, s0)] h := by
  unfold fX10_addRefs_b86 at hr
  refine r_istore dX10_addRefs_86 (Or.inr rfl) (by decide) (lv' := [(9, (2, s0)), (0, (20, a0)), (1, (14, a1)), (2, (13, a2)), (3, (0, a3)), (4, (0, l4)), (5, (0, l5)), (6, (0, l6)), (7, (2, l7)), (8, (0, l8))]) rfl ?_
  refine r_iload dX10_addRefs_88 7 rfl (Or.inl rfl) ?_
  refine r_iconst dX10_addRefs_90 (by decide) ?_
  refine r_icmp_ne dX10_addRefs_91 (tgt := 99) (by decide) (fun hc => ?_) (fun hc => ?_)
  · have hr := ifn hr hc
    refine r_aload_n dX10_addRefs_99 rfl 3 rfl (nl rfl) ?_
    refine r_iload dX10_addRefs_100 9 rfl (Or.inl rfl) ?_
    refine r_iload dX10_addRefs_102 7 rfl (Or.inl rfl) ?_
    obtain ⟨r104, hg104, hr⟩ := bnd hr
    refine k_V (ci := 3) (o := a2) (T := TX3) (as := [(0, l8), (0, l6)]) (rest := []) (X := (some (0, r104), h)) (oX3_value hg104) gX3_value rfl (by decide) rfl (wsl_38 _ (List.mem_of_getElem? (i := 9) rfl)) rfl dX10_addRefs_104 rfl ?_
    refine r_iconst dX10_addRefs_107 (by decide) ?_
    refine r_icmp_ne dX10_addRefs_108 (tgt := 115) (by decide) (fun hc => ?_) (fun hc => ?_)
    · have hr := ifn hr hc
      refine r_iconst dX10_addRefs_115 (by decide) ?_
      refine r_sub [1, 2, 3, 4, 5, 6, 7, 8, 9, 0] (lv' := [(0, (20, a0)), (1, (14, a1)), (2, (13, a2)), (3, (0, a3)), (4, (0, l4)), (5, (0, l5)), (6, (0, l6)), (7, (2, l7)), (8, (0, l8)), (9, (2, s0))]) rfl ?_
      refine r_scast 0 (v := (0, 0)) (w := (2, 0)) rfl cz (fun _ => Or.inl rfl) (st' := [(2, 0)]) rfl ?_
      exact oX10_addRefs_b116 (K := K) (fun r z => k0 r z) (fun _ _ z => k1 _ _ z) hr hk
    · have hr := ifp hr hc
      refine r_iconst dX10_addRefs_111 (by decide) ?_
      refine r_goto dX10_addRefs_112 (tgt := 116) (by decide) ?_
      refine r_sub [1, 2, 3, 4, 5, 6, 7, 8, 9, 0] (lv' := [(0, (20, a0)), (1, (14, a1)), (2, (13, a2)), (3, (0, a3)), (4, (0, l4)), (5, (0, l5)), (6, (0, l6)), (7, (2, l7)), (8, (0, l8)), (9, (2, s0))]) rfl ?_
      refine r_scast 0 (v := (0, 1)) (w := (2, 1)) rfl cz (fun _ => Or.inr rfl) (st' := [(2, 1)]) rfl ?_
      exact oX10_addRefs_b116 (K := K) (fun r z => k0 r z) (fun _ _ z => k1 _ _ z) hr hk
  · have hr := ifp hr hc
    refine r_iload dX10_addRefs_94 0 rfl (Or.inr rfl) ?_
    refine r_goto dX10_addRefs_96 (tgt := 116) (by decide) ?_
    refine r_sub [1, 2, 3, 4, 5, 6, 7, 8, 9, 0] (lv' := [(0, (20, a0)), (1, (14, a1)), (2, (13, a2)), (3, (0, a3)), (4, (0, l4)), (5, (0, l5)), (6, (0, l6)), (7, (2, l7)), (8, (0, l8)), (9, (2, s0))]) rfl ?_
    exact oX10_addRefs_b116 (K := K) (fun r z => k0 r z) (fun _ _ z => k1 _ _ z) hr hk
set_option maxRecDepth 100000 in
set_option maxHeartbeats 4000000 in
theorem oX10_addRefs_s46 {h0 : hH} {a0 a1 a2 a3 l4 l5 l6 l7 l8 : Int} {K : (hH × Int) ⊕ (hH) → Prop} (k0 : ∀ r, K (.inr (r)) → x = (none, r)) (k1 : ∀ (h : hH) (l8 : Int), K (.inl (h, l8)) → Wq p l e R s m args below meth c D G A H0 true n0 M_X10_addRefs x 0 0 46 [(0, (20, a0)), (1, (14, a1)), (2, (13, a2)), (3, (0, a3)), (4, (0, l4)), (5, (0, l5)), (6, (0, l6)), (7, (2, l7)), (8, (0, l8))] [] h) {r : (hH × Int) ⊕ (hH)} (hr : fX10_addRefs_s46 h0 a0 a1 a2 a3 l4 l5 l6 l7 (h, l8) = some r) (hk : K r) : Wq p l e R s m args below meth c D G A H0 true n0 M_X10_addRefs x 0 0 46 [(0, (20, a0)), (1, (14, a1)), (2, (13, a2)), (3, (0, a3)), (4, (0, l4)), (5, (0, l5)), (6, (0, l6)), (7, (2, l7)), (8, (0, l8))] [] h := by
  unfold fX10_addRefs_s46 at hr
  refine r_iload dX10_addRefs_46 8 rfl (Or.inl rfl) ?_
  refine r_aload_n dX10_addRefs_48 rfl 2 rfl (nl rfl) ?_
  refine r_get 3 0 (o := a2) (w := (0, h a2 0)) (T := TX3) (ref := "FollowingRefs$Rows") rfl (by decide) rfl (by decide) inlX3 (wsl_38 _ (List.mem_of_getElem? (i := 7) rfl)) rfl dX10_addRefs_49 rfl ?_
  refine r_icmp_ge dX10_addRefs_52 (tgt := 177) (by decide) (fun hc => ?_) (fun hc => ?_)
  · have hr := ifn hr hc
    obtain rfl := Option.some.inj hr
    exact r_vret dX10_addRefs_177 rfl (k0 _ hk) ⟨rfl, rfl⟩
  · have hr := ifp hr hc
    refine r_aload_n dX10_addRefs_55 rfl 2 rfl (nl rfl) ?_
    refine r_iload dX10_addRefs_56 8 rfl (Or.inl rfl) ?_
    obtain ⟨r58, hg58, hr⟩ := bnd hr
    refine k_V (ci := 3) (o := a2) (T := TX3) (as := [(0, l8)]) (rest := []) (X := (some (0, r58), h)) (oX3_tableAt hg58) gX3_tableAt rfl (by decide) rfl (wsl_38 _ (List.mem_of_getElem? (i := 8) rfl)) rfl dX10_addRefs_58 rfl ?_
    refine r_iload dX10_addRefs_61 4 rfl (Or.inl rfl) ?_
    refine r_icmp_eq dX10_addRefs_63 (tgt := 69) (by decide) (fun hc => ?_) (fun hc => ?_)
    · have hr := ifp hr hc
      refine r_aload_n dX10_addRefs_69 rfl 2 rfl (nl rfl) ?_
      refine r_iload dX10_addRefs_70 8 rfl (Or.inl rfl) ?_
      refine r_iload dX10_addRefs_72 5 rfl (Or.inl rfl) ?_
      obtain ⟨r74, hg74, hr⟩ := bnd hr
      refine k_V (ci := 3) (o := a2) (T := TX3) (as := [(0, l8), (0, l5)]) (rest := []) (X := (some (0, r74), h)) (oX3_value hg74) gX3_value rfl (by decide) rfl (wsl_38 _ (List.mem_of_getElem? (i := 9) rfl)) rfl dX10_addRefs_74 rfl ?_
      refine r_iconst dX10_addRefs_77 (by decide) ?_
      refine r_icmp_ne dX10_addRefs_78 (tgt := 85) (by decide) (fun hc => ?_) (fun hc => ?_)
      · have hr := ifn hr hc
        refine r_iconst dX10_addRefs_85 (by decide) ?_
        refine r_scast 0 (v := (0, 0)) (w := (2, 0)) rfl cz (fun _ => Or.inl rfl) (st' := [(2, 0)]) rfl ?_
        exact oX10_addRefs_b86 (K := K) (fun r z => k0 r z) (fun _ _ z => k1 _ _ z) hr hk
      · have hr := ifp hr hc
        refine r_iconst dX10_addRefs_81 (by decide) ?_
        refine r_goto dX10_addRefs_82 (tgt := 86) (by decide) ?_
        refine r_scast 0 (v := (0, 1)) (w := (2, 1)) rfl cz (fun _ => Or.inr rfl) (st' := [(2, 1)]) rfl ?_
        exact oX10_addRefs_b86 (K := K) (fun r z => k0 r z) (fun _ _ z => k1 _ _ z) hr hk
    · have hr := ifn hr hc
      refine r_goto dX10_addRefs_66 (tgt := 171) (by decide) ?_
      refine r_iinc (k := 8) (v := l8) dX10_addRefs_171 rfl (by decide) (lv' := [(8, (0, w32 (l8 + 1))), (0, (20, a0)), (1, (14, a1)), (2, (13, a2)), (3, (0, a3)), (4, (0, l4)), (5, (0, l5)), (6, (0, l6)), (7, (2, l7))]) rfl ?_
      refine r_goto dX10_addRefs_174 (tgt := 46) (by decide) ?_
      refine r_sub [1, 2, 3, 4, 5, 6, 7, 8, 0] (lv' := [(0, (20, a0)), (1, (14, a1)), (2, (13, a2)), (3, (0, a3)), (4, (0, l4)), (5, (0, l5)), (6, (0, l6)), (7, (2, l7)), (8, (0, w32 (l8 + 1)))]) rfl ?_
      obtain rfl := Option.some.inj hr
      exact k1 _ _ hk
set_option maxRecDepth 100000 in
set_option maxHeartbeats 4000000 in
theorem oX10_addRefs_b41 {a0 a1 a2 a3 l4 l5 l6 s0 : Int} {K : hH → Prop} (k0 : ∀ r, K (r) → x = (none, r)) {r : hH} (hr : fX10_addRefs_b41 h a0 a1 a2 a3 l4 l5 l6 s0 = some r) (hk : K r) : Wq p l e R s m args below meth c D G A H0 true n0 M_X10_addRefs x 0 0 41 [(0, (20, a0)), (1, (14, a1)), (2, (13, a2)), (3, (0, a3)), (4, (0, l4)), (5, (0, l5)), (6, (0, l6))] [(2, s0)] h := by
  unfold fX10_addRefs_b41 at hr
  refine r_istore dX10_addRefs_41 (Or.inr rfl) (by decide) (lv' := [(7, (2, s0)), (0, (20, a0)), (1, (14, a1)), (2, (13, a2)), (3, (0, a3)), (4, (0, l4)), (5, (0, l5)), (6, (0, l6))]) rfl ?_
  refine r_iconst dX10_addRefs_43 (by decide) ?_
  refine r_istore dX10_addRefs_44 (Or.inl rfl) (by decide) (lv' := [(8, (0, 0)), (7, (2, s0)), (0, (20, a0)), (1, (14, a1)), (2, (13, a2)), (3, (0, a3)), (4, (0, l4)), (5, (0, l5)), (6, (0, l6))]) rfl ?_
  refine r_sub [2, 3, 4, 5, 6, 7, 8, 1, 0] (lv' := [(0, (20, a0)), (1, (14, a1)), (2, (13, a2)), (3, (0, a3)), (4, (0, l4)), (5, (0, l5)), (6, (0, l6)), (7, (2, s0)), (8, (0, 0))]) rfl ?_
  exact lp_ok (w := fun (q : hH × Int) => Wq p l e R s m args below meth c D G A H0 true n0 M_X10_addRefs x 0 0 46 [(0, (20, a0)), (1, (14, a1)), (2, (13, a2)), (3, (0, a3)), (4, (0, l4)), (5, (0, l5)), (6, (0, l6)), (7, (2, s0)), (8, (0, q.2))] [] (q.1)) (K := K) (fun ⟨q0, q1⟩ r h1 h2 => oX10_addRefs_s46 (K := Sum.elim (fun (q : hH × Int) => Wq p l e R s m args below meth c D G A H0 true n0 M_X10_addRefs x 0 0 46 [(0, (20, a0)), (1, (14, a1)), (2, (13, a2)), (3, (0, a3)), (4, (0, l4)), (5, (0, l5)), (6, (0, l6)), (7, (2, s0)), (8, (0, q.2))] [] (q.1)) (K)) (fun r z => k0 r z) (fun _ _ z => z) h1 h2) hr hk
set_option maxRecDepth 100000 in
set_option maxHeartbeats 4000000 in
theorem oX10_addRefs_b0 {a0 a1 a2 a3 : Int} {K : hH → Prop} (k0 : ∀ r, K (r) → x = (none, r)) {r : hH} (hr : fX10_addRefs h a0 a1 a2 a3 = some r) (hk : K r) : Wq p l e R s m args below meth c D G A H0 true n0 M_X10_addRefs x 0 0 0 [(0, (20, a0)), (1, (14, a1)), (2, (13, a2)), (3, (0, a3))] [] h := by
  unfold fX10_addRefs at hr
  refine r_aload_n dX10_addRefs_0 rfl 1 rfl (nl rfl) ?_
  refine r_iload_n dX10_addRefs_1 rfl 3 rfl (Or.inl rfl) ?_
  refine r_iconst dX10_addRefs_2 (by decide) ?_
  obtain ⟨r3, hg3, hr⟩ := bnd hr
  refine k_V (ci := 4) (o := a1) (T := TX4) (as := [(0, a3), (0, 0)]) (rest := []) (X := (some (0, r3), h)) (oX4_refPart hg3) gX4_refPart rfl (by decide) rfl (wsl_38 _ (List.mem_of_getElem? (i := 23) rfl)) rfl dX10_addRefs_3 rfl ?_
  refine r_istore dX10_addRefs_6 (Or.inl rfl) (by decide) (lv' := [(4, (0, r3)), (0, (20, a0)), (1, (14, a1)), (2, (13, a2)), (3, (0, a3))]) rfl ?_
  refine r_aload_n dX10_addRefs_8 rfl 2 rfl (nl rfl) ?_
  refine r_iload_n dX10_addRefs_9 rfl 4 rfl (Or.inl rfl) ?_
  refine r_bipush dX10_addRefs_10 (by decide) (by decide) ?_
  obtain ⟨r12, hg12, hr⟩ := bnd hr
  refine k_V (ci := 4) (o := a1) (T := TX4) (as := [(0, a3), (0, 7)]) (rest := []) (X := (some (0, r12), h)) (oX4_refPart hg12) gX4_refPart rfl (by decide) rfl (wsl_38 _ (List.mem_of_getElem? (i := 23) rfl)) rfl dX10_addRefs_12 rfl ?_
  refine r_istore dX10_addRefs_15 (Or.inl rfl) (by decide) (lv' := [(5, (0, r12)), (4, (0, r3)), (0, (20, a0)), (1, (14, a1)), (2, (13, a2)), (3, (0, a3))]) rfl ?_
  refine r_aload_n dX10_addRefs_17 rfl 3 rfl (nl rfl) ?_
  refine r_iload_n dX10_addRefs_18 rfl 5 rfl (Or.inl rfl) ?_
  refine r_bipush dX10_addRefs_19 (by decide) (by decide) ?_
  obtain ⟨r21, hg21, hr⟩ := bnd hr
  refine k_V (ci := 4) (o := a1) (T := TX4) (as := [(0, a3), (0, 8)]) (rest := []) (X := (some (0, r21), h)) (oX4_refPart hg21) gX4_refPart rfl (by decide) rfl (wsl_38 _ (List.mem_of_getElem? (i := 23) rfl)) rfl dX10_addRefs_21 rfl ?_
  refine r_istore dX10_addRefs_24 (Or.inl rfl) (by decide) (lv' := [(6, (0, r21)), (5, (0, r12)), (4, (0, r3)), (0, (20, a0)), (1, (14, a1)), (2, (13, a2)), (3, (0, a3))]) rfl ?_
  refine r_aload_n dX10_addRefs_26 rfl 4 rfl (nl rfl) ?_
  refine r_iload_n dX10_addRefs_27 rfl 6 rfl (Or.inl rfl) ?_
  refine r_iconst dX10_addRefs_28 (by decide) ?_
  obtain ⟨r29, hg29, hr⟩ := bnd hr
  refine k_V (ci := 4) (o := a1) (T := TX4) (as := [(0, a3), (0, 5)]) (rest := []) (X := (some (0, r29), h)) (oX4_refPart hg29) gX4_refPart rfl (by decide) rfl (wsl_38 _ (List.mem_of_getElem? (i := 23) rfl)) rfl dX10_addRefs_29 rfl ?_
  refine r_iconst dX10_addRefs_32 (by decide) ?_
  refine r_icmp_ne dX10_addRefs_33 (tgt := 40) (by decide) (fun hc => ?_) (fun hc => ?_)
  · have hr := ifn hr hc
    refine r_iconst dX10_addRefs_40 (by decide) ?_
    refine r_sub [3, 4, 5, 6, 2, 1, 0] (lv' := [(0, (20, a0)), (1, (14, a1)), (2, (13, a2)), (3, (0, a3)), (4, (0, r3)), (5, (0, r12)), (6, (0, r21))]) rfl ?_
    refine r_scast 0 (v := (0, 0)) (w := (2, 0)) rfl cz (fun _ => Or.inl rfl) (st' := [(2, 0)]) rfl ?_
    exact oX10_addRefs_b41 (K := K) (fun r z => k0 r z) hr hk
  · have hr := ifp hr hc
    refine r_iconst dX10_addRefs_36 (by decide) ?_
    refine r_goto dX10_addRefs_37 (tgt := 41) (by decide) ?_
    refine r_sub [3, 4, 5, 6, 2, 1, 0] (lv' := [(0, (20, a0)), (1, (14, a1)), (2, (13, a2)), (3, (0, a3)), (4, (0, r3)), (5, (0, r12)), (6, (0, r21))]) rfl ?_
    refine r_scast 0 (v := (0, 1)) (w := (2, 1)) rfl cz (fun _ => Or.inr rfl) (st' := [(2, 1)]) rfl ?_
    exact oX10_addRefs_b41 (K := K) (fun r z => k0 r z) hr hk
end M_X10_addRefs
theorem oX10_addRefs {l : Launch} {D : va_G} {G : gG} {h : hH} {a0 a1 a2 a3 : Int} {r : hH} (hr : fX10_addRefs h a0 a1 a2 a3 = some r) : Ctr l D G true yX10_addRefs M_X10_addRefs [(20, a0), (14, a1), (13, a2), (0, a3)] h (none, r) :=
  Ctr_of (by decide) rfl (fun z => by cases z) (nl rfl) (fun {p e R s m args below meth c A H0} => by
    exact oX10_addRefs_b0 (K := fun z9 => z9 = r) (fun r9 z => by rw [z]) hr rfl)
/-! X4_checkPart -/
theorem dX4_checkPart_0 : decode cX4_checkPart 0 = .ok (.aload_n 0, 1) := by decide +kernel
theorem dX4_checkPart_1 : decode cX4_checkPart 1 = .ok (.getfield 34, 3) := by decide +kernel
theorem dX4_checkPart_4 : decode cX4_checkPart 4 = .ok (.iload_n 1, 1) := by decide +kernel
theorem dX4_checkPart_5 : decode cX4_checkPart 5 = .ok (.bipush 6, 2) := by decide +kernel
theorem dX4_checkPart_7 : decode cX4_checkPart 7 = .ok (.imul, 1) := by decide +kernel
theorem dX4_checkPart_8 : decode cX4_checkPart 8 = .ok (.iload_n 2, 1) := by decide +kernel
theorem dX4_checkPart_9 : decode cX4_checkPart 9 = .ok (.iadd, 1) := by decide +kernel
theorem dX4_checkPart_10 : decode cX4_checkPart 10 = .ok (.invokestatic 80, 3) := by decide +kernel
theorem dX4_checkPart_13 : decode cX4_checkPart 13 = .ok (.ireturn, 1) := by decide +kernel
abbrev M_X4_checkPart : mM := (cX4_checkPart, 3, RX4, some .int, false, 1, 21, 0, 0)
theorem gX4_checkPart : cI yX4_checkPart M_X4_checkPart 2 := ⟨(wsl_39 _ (List.mem_of_getElem? (i := 6) rfl)), (wsl_39 _ (List.mem_of_getElem? (i := 7) rfl)), (wsl_1 _ (List.mem_of_getElem? (i := 19) rfl)), (wsl_39 _ (List.mem_of_getElem? (i := 8) rfl)), by decide +kernel⟩
noncomputable def fX4_checkPart (h : hH) (a0 a1 a2 : Int) : Option (Int) :=
  (fX11_at h (h a0 11) (w32 ((w32 (a1 * 6)) + a2))).bind fun r10 =>
  some r10
section M_X4_checkPart
variable {p : Program} {l : Launch} {e : Env} {R : Room} {s : State} {m : MethodId} {args : Array Value} {below : List Frame} {meth : Method} {c : Code} {D : va_G} {G : gG} {A : Nat → Prop} {H0 : Heap} {n0 : Int} {x : Option vV × hH} {h : hH}
set_option maxRecDepth 100000 in
set_option maxHeartbeats 4000000 in
theorem oX4_checkPart_b0 {a0 a1 a2 : Int} {K : Int → Prop} (k0 : ∀ r, K (r) → x = (some (0, r), h)) {r : Int} (hr : fX4_checkPart h a0 a1 a2 = some r) (hk : K r) : Wq p l e R s m args below meth c D G A H0 true n0 M_X4_checkPart x 0 0 0 [(0, (14, a0)), (1, (0, a1)), (2, (0, a2))] [] h := by
  unfold fX4_checkPart at hr
  refine r_aload_n dX4_checkPart_0 rfl 0 rfl (nl rfl) ?_
  refine r_get 4 11 (o := a0) (w := (50, h a0 11)) (T := TX4) (ref := "FollowingRefs$Schema") rfl (by decide) rfl (by decide) inlX4 (wsl_3 _ (List.mem_of_getElem? (i := 23) rfl)) rfl dX4_checkPart_1 rfl ?_
  refine r_iload_n dX4_checkPart_4 rfl 1 rfl (Or.inl rfl) ?_
  refine r_bipush dX4_checkPart_5 (by decide) (by decide) ?_
  refine r_imul dX4_checkPart_7 ?_
  refine r_iload_n dX4_checkPart_8 rfl 2 rfl (Or.inl rfl) ?_
  refine r_iadd dX4_checkPart_9 ?_
  obtain ⟨r10, hg10, hr⟩ := bnd hr
  refine k_SN (host := "FollowingRefs") (as := [(50, h a0 11), (0, w32 ((w32 (a1 * 6)) + a2))]) (rest := []) (X := (some (0, r10), h)) (oX11_at hg10) gX11_at rfl (List.mem_of_getElem? (i := 24) rfl) rfl dX4_checkPart_10 rfl ?_
  obtain rfl := Option.some.inj hr
  exact r_ret dX4_checkPart_13 rfl (Or.inl ⟨rfl, rfl⟩) (k0 _ hk) ⟨rfl, rfl⟩
end M_X4_checkPart
theorem oX4_checkPart {l : Launch} {D : va_G} {G : gG} {h : hH} {a0 a1 a2 : Int} {r : Int} (hr : fX4_checkPart h a0 a1 a2 = some r) : Ctr l D G true yX4_checkPart M_X4_checkPart [(14, a0), (0, a1), (0, a2)] h (some (0, r), h) :=
  Ctr_of (by decide) rfl (fun z => by cases z) (nl rfl) (fun {p e R s m args below meth c A H0} => by
    exact oX4_checkPart_b0 (K := fun z9 => z9 = r) (fun r9 z => by rw [z]) hr rfl)
/-! X10_addChecks -/
theorem dX10_addChecks_0 : decode cX10_addChecks 0 = .ok (.aload_n 1, 1) := by decide +kernel
theorem dX10_addChecks_1 : decode cX10_addChecks 1 = .ok (.iload_n 3, 1) := by decide +kernel
theorem dX10_addChecks_2 : decode cX10_addChecks 2 = .ok (.iconst 0, 1) := by decide +kernel
theorem dX10_addChecks_3 : decode cX10_addChecks 3 = .ok (.invokevirtual 56, 3) := by decide +kernel
theorem dX10_addChecks_6 : decode cX10_addChecks 6 = .ok (.istore 4, 2) := by decide +kernel
theorem dX10_addChecks_8 : decode cX10_addChecks 8 = .ok (.aload_n 1, 1) := by decide +kernel
theorem dX10_addChecks_9 : decode cX10_addChecks 9 = .ok (.iload_n 3, 1) := by decide +kernel
theorem dX10_addChecks_10 : decode cX10_addChecks 10 = .ok (.iconst 1, 1) := by decide +kernel
theorem dX10_addChecks_11 : decode cX10_addChecks 11 = .ok (.invokevirtual 56, 3) := by decide +kernel
theorem dX10_addChecks_14 : decode cX10_addChecks 14 = .ok (.istore 5, 2) := by decide +kernel
theorem dX10_addChecks_16 : decode cX10_addChecks 16 = .ok (.aload_n 1, 1) := by decide +kernel
theorem dX10_addChecks_17 : decode cX10_addChecks 17 = .ok (.iload_n 3, 1) := by decide +kernel
theorem dX10_addChecks_18 : decode cX10_addChecks 18 = .ok (.iconst 2, 1) := by decide +kernel
theorem dX10_addChecks_19 : decode cX10_addChecks 19 = .ok (.invokevirtual 56, 3) := by decide +kernel
theorem dX10_addChecks_22 : decode cX10_addChecks 22 = .ok (.istore 6, 2) := by decide +kernel
theorem dX10_addChecks_24 : decode cX10_addChecks 24 = .ok (.aload_n 1, 1) := by decide +kernel
theorem dX10_addChecks_25 : decode cX10_addChecks 25 = .ok (.iload_n 3, 1) := by decide +kernel
theorem dX10_addChecks_26 : decode cX10_addChecks 26 = .ok (.iconst 3, 1) := by decide +kernel
theorem dX10_addChecks_27 : decode cX10_addChecks 27 = .ok (.invokevirtual 56, 3) := by decide +kernel
theorem dX10_addChecks_30 : decode cX10_addChecks 30 = .ok (.istore 7, 2) := by decide +kernel
theorem dX10_addChecks_32 : decode cX10_addChecks 32 = .ok (.iconst 0, 1) := by decide +kernel
theorem dX10_addChecks_33 : decode cX10_addChecks 33 = .ok (.istore 8, 2) := by decide +kernel
theorem dX10_addChecks_35 : decode cX10_addChecks 35 = .ok (.iload 8, 2) := by decide +kernel
theorem dX10_addChecks_37 : decode cX10_addChecks 37 = .ok (.aload_n 2, 1) := by decide +kernel
theorem dX10_addChecks_38 : decode cX10_addChecks 38 = .ok (.getfield 66, 3) := by decide +kernel
theorem dX10_addChecks_41 : decode cX10_addChecks 41 = .ok (.if_icmp .ge 91, 3) := by decide +kernel
theorem dX10_addChecks_44 : decode cX10_addChecks 44 = .ok (.aload_n 2, 1) := by decide +kernel
theorem dX10_addChecks_45 : decode cX10_addChecks 45 = .ok (.iload 8, 2) := by decide +kernel
theorem dX10_addChecks_47 : decode cX10_addChecks 47 = .ok (.iload 5, 2) := by decide +kernel
theorem dX10_addChecks_49 : decode cX10_addChecks 49 = .ok (.invokevirtual 72, 3) := by decide +kernel
theorem dX10_addChecks_52 : decode cX10_addChecks 52 = .ok (.istore 9, 2) := by decide +kernel
theorem dX10_addChecks_54 : decode cX10_addChecks 54 = .ok (.iload 7, 2) := by decide +kernel
theorem dX10_addChecks_56 : decode cX10_addChecks 56 = .ok (.iconst (-1), 1) := by decide +kernel
theorem dX10_addChecks_57 : decode cX10_addChecks 57 = .ok (.if_icmp .ne 12, 3) := by decide +kernel
theorem dX10_addChecks_60 : decode cX10_addChecks 60 = .ok (.aload_n 1, 1) := by decide +kernel
theorem dX10_addChecks_61 : decode cX10_addChecks 61 = .ok (.iload_n 3, 1) := by decide +kernel
theorem dX10_addChecks_62 : decode cX10_addChecks 62 = .ok (.iconst 4, 1) := by decide +kernel
theorem dX10_addChecks_63 : decode cX10_addChecks 63 = .ok (.invokevirtual 56, 3) := by decide +kernel
theorem dX10_addChecks_66 : decode cX10_addChecks 66 = .ok (.goto 11, 3) := by decide +kernel
theorem dX10_addChecks_69 : decode cX10_addChecks 69 = .ok (.aload_n 2, 1) := by decide +kernel
theorem dX10_addChecks_70 : decode cX10_addChecks 70 = .ok (.iload 8, 2) := by decide +kernel
theorem dX10_addChecks_72 : decode cX10_addChecks 72 = .ok (.iload 7, 2) := by decide +kernel
theorem dX10_addChecks_74 : decode cX10_addChecks 74 = .ok (.invokevirtual 72, 3) := by decide +kernel
theorem dX10_addChecks_77 : decode cX10_addChecks 77 = .ok (.istore 10, 2) := by decide +kernel
theorem dX10_addChecks_79 : decode cX10_addChecks 79 = .ok (.aload_n 2, 1) := by decide +kernel
theorem dX10_addChecks_80 : decode cX10_addChecks 80 = .ok (.iload 8, 2) := by decide +kernel
theorem dX10_addChecks_82 : decode cX10_addChecks 82 = .ok (.invokevirtual 69, 3) := by decide +kernel
theorem dX10_addChecks_85 : decode cX10_addChecks 85 = .ok (.iload 4, 2) := by decide +kernel
theorem dX10_addChecks_87 : decode cX10_addChecks 87 = .ok (.if_icmp .ne 39, 3) := by decide +kernel
theorem dX10_addChecks_90 : decode cX10_addChecks 90 = .ok (.iload 9, 2) := by decide +kernel
theorem dX10_addChecks_92 : decode cX10_addChecks 92 = .ok (.iconst (-1), 1) := by decide +kernel
theorem dX10_addChecks_93 : decode cX10_addChecks 93 = .ok (.if_icmp .eq 33, 3) := by decide +kernel
theorem dX10_addChecks_96 : decode cX10_addChecks 96 = .ok (.iload 10, 2) := by decide +kernel
theorem dX10_addChecks_98 : decode cX10_addChecks 98 = .ok (.iconst (-1), 1) := by decide +kernel
theorem dX10_addChecks_99 : decode cX10_addChecks 99 = .ok (.if_icmp .eq 27, 3) := by decide +kernel
theorem dX10_addChecks_102 : decode cX10_addChecks 102 = .ok (.iload 9, 2) := by decide +kernel
theorem dX10_addChecks_104 : decode cX10_addChecks 104 = .ok (.iload 6, 2) := by decide +kernel
theorem dX10_addChecks_106 : decode cX10_addChecks 106 = .ok (.iload 10, 2) := by decide +kernel
theorem dX10_addChecks_108 : decode cX10_addChecks 108 = .ok (.invokestatic 93, 3) := by decide +kernel
theorem dX10_addChecks_111 : decode cX10_addChecks 111 = .ok (.ifCond .ne 15, 3) := by decide +kernel
theorem dX10_addChecks_114 : decode cX10_addChecks 114 = .ok (.aload_n 0, 1) := by decide +kernel
theorem dX10_addChecks_115 : decode cX10_addChecks 115 = .ok (.iconst 4, 1) := by decide +kernel
theorem dX10_addChecks_116 : decode cX10_addChecks 116 = .ok (.iload_n 3, 1) := by decide +kernel
theorem dX10_addChecks_117 : decode cX10_addChecks 117 = .ok (.aload_n 2, 1) := by decide +kernel
theorem dX10_addChecks_118 : decode cX10_addChecks 118 = .ok (.iload 8, 2) := by decide +kernel
theorem dX10_addChecks_120 : decode cX10_addChecks 120 = .ok (.invokevirtual 75, 3) := by decide +kernel
theorem dX10_addChecks_123 : decode cX10_addChecks 123 = .ok (.invokevirtual 78, 3) := by decide +kernel
theorem dX10_addChecks_126 : decode cX10_addChecks 126 = .ok (.iinc 8 1, 3) := by decide +kernel
theorem dX10_addChecks_129 : decode cX10_addChecks 129 = .ok (.goto (-94), 3) := by decide +kernel
theorem dX10_addChecks_132 : decode cX10_addChecks 132 = .ok (.return_, 1) := by decide +kernel
abbrev M_X10_addChecks : mM := (cX10_addChecks, 11, RX10, none, false, 2, 45, 0, 0)
theorem gX10_addChecks : cI yX10_addChecks M_X10_addChecks 3 := ⟨(wsl_39 _ (List.mem_of_getElem? (i := 10) rfl)), (wsl_39 _ (List.mem_of_getElem? (i := 11) rfl)), (wsl_6 _ (List.mem_of_getElem? (i := 0) rfl)), (wsl_39 _ (List.mem_of_getElem? (i := 12) rfl)), by decide +kernel⟩
noncomputable def fX10_addChecks_b77 (h : hH) (a0 a1 a2 a3 l4 l5 l6 l7 l8 l9 s0 : Int) : Option ((hH × Int) ⊕ (hH)) :=
  (fX3_tableAt h a2 l8).bind fun r82 =>
  if r82 = l4 then
    if l9 = -1 then
      some (.inl (h, w32 (l8 + 1)))
    else
      if s0 = -1 then
        some (.inl (h, w32 (l8 + 1)))
      else
        (fX11_compares h l9 l6 s0).bind fun r108 =>
        if r108 = 0 then
          (fX3_numberAt h a2 l8).bind fun r120 =>
          (fX10_add h a0 4 a3 r120).bind fun h123 =>
          some (.inl (h123, w32 (l8 + 1)))
        else
          some (.inl (h, w32 (l8 + 1)))
  else
    some (.inl (h, w32 (l8 + 1)))
noncomputable def fX10_addChecks_s35 (h0 : hH) (a0 a1 a2 a3 l4 l5 l6 l7 : Int) : hH × Int → Option ((hH × Int) ⊕ (hH)) := fun (h, l8) =>
  if l8 < h a2 0 then
    (fX3_value h a2 l8 l5).bind fun r49 =>
    if l7 = -1 then
      (fX4_checkPart h a1 a3 4).bind fun r63 =>
      fX10_addChecks_b77 h a0 a1 a2 a3 l4 l5 l6 l7 l8 r49 r63
    else
      (fX3_value h a2 l8 l7).bind fun r74 =>
      fX10_addChecks_b77 h a0 a1 a2 a3 l4 l5 l6 l7 l8 r49 r74
  else
    some (.inr (h))
noncomputable def fX10_addChecks (h : hH) (a0 a1 a2 a3 : Int) : Option (hH) :=
  (fX4_checkPart h a1 a3 0).bind fun r3 =>
  (fX4_checkPart h a1 a3 1).bind fun r11 =>
  (fX4_checkPart h a1 a3 2).bind fun r19 =>
  (fX4_checkPart h a1 a3 3).bind fun r27 =>
  lpO (fX10_addChecks_s35 h a0 a1 a2 a3 r3 r11 r19 r27) (h, 0)
section M_X10_addChecks
variable {p : Program} {l : Launch} {e : Env} {R : Room} {s : State} {m : MethodId} {args : Array Value} {below : List Frame} {meth : Method} {c : Code} {D : va_G} {G : gG} {A : Nat → Prop} {H0 : Heap} {n0 : Int} {x : Option vV × hH} {h : hH}
set_option maxRecDepth 100000 in
set_option maxHeartbeats 4000000 in
theorem oX10_addChecks_b77 {a0 a1 a2 a3 l4 l5 l6 l7 l8 l9 s0 : Int} {K : (hH × Int) ⊕ (hH) → Prop} (k0 : ∀ r, K (.inr (r)) → x = (none, r)) (k1 : ∀ (h : hH) (l8 : Int), K (.inl (h, l8)) → Wq p l e R s m args below meth c D G A H0 true n0 M_X10_addChecks x 0 0 35 [(0, (20, a0)), (1, (14, a1)), (2, (13, a2)), (3, (0, a3)), (4, (0, l4)), (5, (0, l5)), (6, (0, l6)), (7, (0, l7)), (8, (0, l8))] [] h) {r : (hH × Int) ⊕ (hH)} (hr : fX10_addChecks_b77 h a0 a1 a2 a3 l4 l5 l6 l7 l8 l9 s0 = some r) (hk : K r) : Wq p l e R s m args below meth c D G A H0 true n0 M_X10_addChecks x 0 0 77 [(0, (20, a0)), (1, (14, a1)), (2, (13, a2)), (3, (0, a3)), (4, (0, l4)), (5, (0, l5)), (6, (0, l6)), (7, (0, l7)), (8, (0, l8)), (9, (0, l9))] [(0, s0)] h := by
  unfold fX10_addChecks_b77 at hr
  refine r_istore dX10_addChecks_77 (Or.inl rfl) (by decide) (lv' := [(10, (0, s0)), (0, (20, a0)), (1, (14, a1)), (2, (13, a2)), (3, (0, a3)), (4, (0, l4)), (5, (0, l5)), (6, (0, l6)), (7, (0, l7)), (8, (0, l8)), (9, (0, l9))]) rfl ?_
  refine r_aload_n dX10_addChecks_79 rfl 3 rfl (nl rfl) ?_
  refine r_iload dX10_addChecks_80 9 rfl (Or.inl rfl) ?_
  obtain ⟨r82, hg82, hr⟩ := bnd hr
  refine k_V (ci := 3) (o := a2) (T := TX3) (as := [(0, l8)]) (rest := []) (X := (some (0, r82), h)) (oX3_tableAt hg82) gX3_tableAt rfl (by decide) rfl (wsl_38 _ (List.mem_of_getElem? (i := 8) rfl)) rfl dX10_addChecks_82 rfl ?_
  refine r_iload dX10_addChecks_85 5 rfl (Or.inl rfl) ?_
  refine r_icmp_ne dX10_addChecks_87 (tgt := 126) (by decide) (fun hc => ?_) (fun hc => ?_)
  · have hr := ifn hr hc
    refine r_iinc (k := 9) (v := l8) dX10_addChecks_126 rfl (by decide) (lv' := [(8, (0, w32 (l8 + 1))), (10, (0, s0)), (0, (20, a0)), (1, (14, a1)), (2, (13, a2)), (3, (0, a3)), (4, (0, l4)), (5, (0, l5)), (6, (0, l6)), (7, (0, l7)), (9, (0, l9))]) rfl ?_
    refine r_goto dX10_addChecks_129 (tgt := 35) (by decide) ?_
    refine r_sub [2, 3, 4, 5, 6, 7, 8, 9, 0] (lv' := [(0, (20, a0)), (1, (14, a1)), (2, (13, a2)), (3, (0, a3)), (4, (0, l4)), (5, (0, l5)), (6, (0, l6)), (7, (0, l7)), (8, (0, w32 (l8 + 1)))]) rfl ?_
    obtain rfl := Option.some.inj hr
    exact k1 _ _ hk
  · have hr := ifp hr hc
    refine r_iload dX10_addChecks_90 10 rfl (Or.inl rfl) ?_
    refine r_iconst dX10_addChecks_92 (by decide) ?_
    refine r_icmp_eq dX10_addChecks_93 (tgt := 126) (by decide) (fun hc => ?_) (fun hc => ?_)
    · have hr := ifp hr hc
      refine r_iinc (k := 9) (v := l8) dX10_addChecks_126 rfl (by decide) (lv' := [(8, (0, w32 (l8 + 1))), (10, (0, s0)), (0, (20, a0)), (1, (14, a1)), (2, (13, a2)), (3, (0, a3)), (4, (0, l4)), (5, (0, l5)), (6, (0, l6)), (7, (0, l7)), (9, (0, l9))]) rfl ?_
      refine r_goto dX10_addChecks_129 (tgt := 35) (by decide) ?_
      refine r_sub [2, 3, 4, 5, 6, 7, 8, 9, 0] (lv' := [(0, (20, a0)), (1, (14, a1)), (2, (13, a2)), (3, (0, a3)), (4, (0, l4)), (5, (0, l5)), (6, (0, l6)), (7, (0, l7)), (8, (0, w32 (l8 + 1)))]) rfl ?_
      obtain rfl := Option.some.inj hr
      exact k1 _ _ hk
    · have hr := ifn hr hc
      refine r_iload dX10_addChecks_96 0 rfl (Or.inl rfl) ?_
      refine r_iconst dX10_addChecks_98 (by decide) ?_
      refine r_icmp_eq dX10_addChecks_99 (tgt := 126) (by decide) (fun hc => ?_) (fun hc => ?_)
      · have hr := ifp hr hc
        refine r_iinc (k := 9) (v := l8) dX10_addChecks_126 rfl (by decide) (lv' := [(8, (0, w32 (l8 + 1))), (10, (0, s0)), (0, (20, a0)), (1, (14, a1)), (2, (13, a2)), (3, (0, a3)), (4, (0, l4)), (5, (0, l5)), (6, (0, l6)), (7, (0, l7)), (9, (0, l9))]) rfl ?_
        refine r_goto dX10_addChecks_129 (tgt := 35) (by decide) ?_
        refine r_sub [2, 3, 4, 5, 6, 7, 8, 9, 0] (lv' := [(0, (20, a0)), (1, (14, a1)), (2, (13, a2)), (3, (0, a3)), (4, (0, l4)), (5, (0, l5)), (6, (0, l6)), (7, (0, l7)), (8, (0, w32 (l8 + 1)))]) rfl ?_
        obtain rfl := Option.some.inj hr
        exact k1 _ _ hk
      · have hr := ifn hr hc
        refine r_iload dX10_addChecks_102 10 rfl (Or.inl rfl) ?_
        refine r_iload dX10_addChecks_104 7 rfl (Or.inl rfl) ?_
        refine r_iload dX10_addChecks_106 0 rfl (Or.inl rfl) ?_
        obtain ⟨r108, hg108, hr⟩ := bnd hr
        refine k_SN (host := "FollowingRefs") (as := [(0, l9), (0, l6), (0, s0)]) (rest := []) (X := (some (2, r108), h)) (oX11_compares hg108) gX11_compares rfl (List.mem_of_getElem? (i := 8) rfl) rfl dX10_addChecks_108 rfl ?_
        refine r_scast 0 (v := (2, r108)) (w := (0, r108)) rfl zc hTz (st' := [(0, r108)]) rfl ?_
        refine r_if_ne dX10_addChecks_111 (tgt := 126) (by decide) (fun hc => ?_) (fun hc => ?_)
        · have hr := ifn hr hc
          refine r_iinc (k := 9) (v := l8) dX10_addChecks_126 rfl (by decide) (lv' := [(8, (0, w32 (l8 + 1))), (10, (0, s0)), (0, (20, a0)), (1, (14, a1)), (2, (13, a2)), (3, (0, a3)), (4, (0, l4)), (5, (0, l5)), (6, (0, l6)), (7, (0, l7)), (9, (0, l9))]) rfl ?_
          refine r_goto dX10_addChecks_129 (tgt := 35) (by decide) ?_
          refine r_sub [2, 3, 4, 5, 6, 7, 8, 9, 0] (lv' := [(0, (20, a0)), (1, (14, a1)), (2, (13, a2)), (3, (0, a3)), (4, (0, l4)), (5, (0, l5)), (6, (0, l6)), (7, (0, l7)), (8, (0, w32 (l8 + 1)))]) rfl ?_
          obtain rfl := Option.some.inj hr
          exact k1 _ _ hk
        · have hr := ifp hr hc
          refine r_aload_n dX10_addChecks_114 rfl 1 rfl (nl rfl) ?_
          refine r_iconst dX10_addChecks_115 (by decide) ?_
          refine r_iload_n dX10_addChecks_116 rfl 4 rfl (Or.inl rfl) ?_
          refine r_aload_n dX10_addChecks_117 rfl 3 rfl (nl rfl) ?_
          refine r_iload dX10_addChecks_118 9 rfl (Or.inl rfl) ?_
          obtain ⟨r120, hg120, hr⟩ := bnd hr
          refine k_V (ci := 3) (o := a2) (T := TX3) (as := [(0, l8)]) (rest := [(0, a3), (0, 4), (20, a0)]) (X := (some (0, r120), h)) (oX3_numberAt hg120) gX3_numberAt rfl (by decide) rfl (wsl_38 _ (List.mem_of_getElem? (i := 10) rfl)) rfl dX10_addChecks_120 rfl ?_
          obtain ⟨h123, hg123, hr⟩ := bnd hr
          refine k_V (ci := 10) (o := a0) (T := TX10) (as := [(0, 4), (0, a3), (0, r120)]) (rest := []) (X := (none, h123)) (oX10_add hg123) gX10_add rfl (by decide) rfl (wsl_38 _ (List.mem_of_getElem? (i := 11) rfl)) rfl dX10_addChecks_123 rfl ?_
          refine r_iinc (k := 9) (v := l8) dX10_addChecks_126 rfl (by decide) (lv' := [(8, (0, w32 (l8 + 1))), (10, (0, s0)), (0, (20, a0)), (1, (14, a1)), (2, (13, a2)), (3, (0, a3)), (4, (0, l4)), (5, (0, l5)), (6, (0, l6)), (7, (0, l7)), (9, (0, l9))]) rfl ?_
          refine r_goto dX10_addChecks_129 (tgt := 35) (by decide) ?_
          refine r_sub [2, 3, 4, 5, 6, 7, 8, 9, 0] (lv' := [(0, (20, a0)), (1, (14, a1)), (2, (13, a2)), (3, (0, a3)), (4, (0, l4)), (5, (0, l5)), (6, (0, l6)), (7, (0, l7)), (8, (0, w32 (l8 + 1)))]) rfl ?_
          obtain rfl := Option.some.inj hr
          exact k1 _ _ hk
set_option maxRecDepth 100000 in
set_option maxHeartbeats 4000000 in
theorem oX10_addChecks_s35 {h0 : hH} {a0 a1 a2 a3 l4 l5 l6 l7 l8 : Int} {K : (hH × Int) ⊕ (hH) → Prop} (k0 : ∀ r, K (.inr (r)) → x = (none, r)) (k1 : ∀ (h : hH) (l8 : Int), K (.inl (h, l8)) → Wq p l e R s m args below meth c D G A H0 true n0 M_X10_addChecks x 0 0 35 [(0, (20, a0)), (1, (14, a1)), (2, (13, a2)), (3, (0, a3)), (4, (0, l4)), (5, (0, l5)), (6, (0, l6)), (7, (0, l7)), (8, (0, l8))] [] h) {r : (hH × Int) ⊕ (hH)} (hr : fX10_addChecks_s35 h0 a0 a1 a2 a3 l4 l5 l6 l7 (h, l8) = some r) (hk : K r) : Wq p l e R s m args below meth c D G A H0 true n0 M_X10_addChecks x 0 0 35 [(0, (20, a0)), (1, (14, a1)), (2, (13, a2)), (3, (0, a3)), (4, (0, l4)), (5, (0, l5)), (6, (0, l6)), (7, (0, l7)), (8, (0, l8))] [] h := by
  unfold fX10_addChecks_s35 at hr
  refine r_iload dX10_addChecks_35 8 rfl (Or.inl rfl) ?_
  refine r_aload_n dX10_addChecks_37 rfl 2 rfl (nl rfl) ?_
  refine r_get 3 0 (o := a2) (w := (0, h a2 0)) (T := TX3) (ref := "FollowingRefs$Rows") rfl (by decide) rfl (by decide) inlX3 (wsl_38 _ (List.mem_of_getElem? (i := 7) rfl)) rfl dX10_addChecks_38 rfl ?_
  refine r_icmp_ge dX10_addChecks_41 (tgt := 132) (by decide) (fun hc => ?_) (fun hc => ?_)
  · have hr := ifn hr hc
    obtain rfl := Option.some.inj hr
    exact r_vret dX10_addChecks_132 rfl (k0 _ hk) ⟨rfl, rfl⟩
  · have hr := ifp hr hc
    refine r_aload_n dX10_addChecks_44 rfl 2 rfl (nl rfl) ?_
    refine r_iload dX10_addChecks_45 8 rfl (Or.inl rfl) ?_
    refine r_iload dX10_addChecks_47 5 rfl (Or.inl rfl) ?_
    obtain ⟨r49, hg49, hr⟩ := bnd hr
    refine k_V (ci := 3) (o := a2) (T := TX3) (as := [(0, l8), (0, l5)]) (rest := []) (X := (some (0, r49), h)) (oX3_value hg49) gX3_value rfl (by decide) rfl (wsl_38 _ (List.mem_of_getElem? (i := 9) rfl)) rfl dX10_addChecks_49 rfl ?_
    refine r_istore dX10_addChecks_52 (Or.inl rfl) (by decide) (lv' := [(9, (0, r49)), (0, (20, a0)), (1, (14, a1)), (2, (13, a2)), (3, (0, a3)), (4, (0, l4)), (5, (0, l5)), (6, (0, l6)), (7, (0, l7)), (8, (0, l8))]) rfl ?_
    refine r_iload dX10_addChecks_54 8 rfl (Or.inl rfl) ?_
    refine r_iconst dX10_addChecks_56 (by decide) ?_
    refine r_icmp_ne dX10_addChecks_57 (tgt := 69) (by decide) (fun hc => ?_) (fun hc => ?_)
    · have hr := ifn hr hc
      refine r_aload_n dX10_addChecks_69 rfl 3 rfl (nl rfl) ?_
      refine r_iload dX10_addChecks_70 9 rfl (Or.inl rfl) ?_
      refine r_iload dX10_addChecks_72 8 rfl (Or.inl rfl) ?_
      obtain ⟨r74, hg74, hr⟩ := bnd hr
      refine k_V (ci := 3) (o := a2) (T := TX3) (as := [(0, l8), (0, l7)]) (rest := []) (X := (some (0, r74), h)) (oX3_value hg74) gX3_value rfl (by decide) rfl (wsl_38 _ (List.mem_of_getElem? (i := 9) rfl)) rfl dX10_addChecks_74 rfl ?_
      refine r_sub [1, 2, 3, 4, 5, 6, 7, 8, 9, 0] (lv' := [(0, (20, a0)), (1, (14, a1)), (2, (13, a2)), (3, (0, a3)), (4, (0, l4)), (5, (0, l5)), (6, (0, l6)), (7, (0, l7)), (8, (0, l8)), (9, (0, r49))]) rfl ?_
      exact oX10_addChecks_b77 (K := K) (fun r z => k0 r z) (fun _ _ z => k1 _ _ z) hr hk
    · have hr := ifp hr hc
      refine r_aload_n dX10_addChecks_60 rfl 2 rfl (nl rfl) ?_
      refine r_iload_n dX10_addChecks_61 rfl 4 rfl (Or.inl rfl) ?_
      refine r_iconst dX10_addChecks_62 (by decide) ?_
      obtain ⟨r63, hg63, hr⟩ := bnd hr
      refine k_V (ci := 4) (o := a1) (T := TX4) (as := [(0, a3), (0, 4)]) (rest := []) (X := (some (0, r63), h)) (oX4_checkPart hg63) gX4_checkPart rfl (by decide) rfl (wsl_39 _ (List.mem_of_getElem? (i := 5) rfl)) rfl dX10_addChecks_63 rfl ?_
      refine r_goto dX10_addChecks_66 (tgt := 77) (by decide) ?_
      refine r_sub [1, 2, 3, 4, 5, 6, 7, 8, 9, 0] (lv' := [(0, (20, a0)), (1, (14, a1)), (2, (13, a2)), (3, (0, a3)), (4, (0, l4)), (5, (0, l5)), (6, (0, l6)), (7, (0, l7)), (8, (0, l8)), (9, (0, r49))]) rfl ?_
      exact oX10_addChecks_b77 (K := K) (fun r z => k0 r z) (fun _ _ z => k1 _ _ z) hr hk
set_option maxRecDepth 100000 in
set_option maxHeartbeats 4000000 in
theorem oX10_addChecks_b0 {a0 a1 a2 a3 : Int} {K : hH → Prop} (k0 : ∀ r, K (r) → x = (none, r)) {r : hH} (hr : fX10_addChecks h a0 a1 a2 a3 = some r) (hk : K r) : Wq p l e R s m args below meth c D G A H0 true n0 M_X10_addChecks x 0 0 0 [(0, (20, a0)), (1, (14, a1)), (2, (13, a2)), (3, (0, a3))] [] h := by
  unfold fX10_addChecks at hr
  refine r_aload_n dX10_addChecks_0 rfl 1 rfl (nl rfl) ?_
  refine r_iload_n dX10_addChecks_1 rfl 3 rfl (Or.inl rfl) ?_
  refine r_iconst dX10_addChecks_2 (by decide) ?_
  obtain ⟨r3, hg3, hr⟩ := bnd hr
  refine k_V (ci := 4) (o := a1) (T := TX4) (as := [(0, a3), (0, 0)]) (rest := []) (X := (some (0, r3), h)) (oX4_checkPart hg3) gX4_checkPart rfl (by decide) rfl (wsl_39 _ (List.mem_of_getElem? (i := 5) rfl)) rfl dX10_addChecks_3 rfl ?_
  refine r_istore dX10_addChecks_6 (Or.inl rfl) (by decide) (lv' := [(4, (0, r3)), (0, (20, a0)), (1, (14, a1)), (2, (13, a2)), (3, (0, a3))]) rfl ?_
  refine r_aload_n dX10_addChecks_8 rfl 2 rfl (nl rfl) ?_
  refine r_iload_n dX10_addChecks_9 rfl 4 rfl (Or.inl rfl) ?_
  refine r_iconst dX10_addChecks_10 (by decide) ?_
  obtain ⟨r11, hg11, hr⟩ := bnd hr
  refine k_V (ci := 4) (o := a1) (T := TX4) (as := [(0, a3), (0, 1)]) (rest := []) (X := (some (0, r11), h)) (oX4_checkPart hg11) gX4_checkPart rfl (by decide) rfl (wsl_39 _ (List.mem_of_getElem? (i := 5) rfl)) rfl dX10_addChecks_11 rfl ?_
  refine r_istore dX10_addChecks_14 (Or.inl rfl) (by decide) (lv' := [(5, (0, r11)), (4, (0, r3)), (0, (20, a0)), (1, (14, a1)), (2, (13, a2)), (3, (0, a3))]) rfl ?_
  refine r_aload_n dX10_addChecks_16 rfl 3 rfl (nl rfl) ?_
  refine r_iload_n dX10_addChecks_17 rfl 5 rfl (Or.inl rfl) ?_
  refine r_iconst dX10_addChecks_18 (by decide) ?_
  obtain ⟨r19, hg19, hr⟩ := bnd hr
  refine k_V (ci := 4) (o := a1) (T := TX4) (as := [(0, a3), (0, 2)]) (rest := []) (X := (some (0, r19), h)) (oX4_checkPart hg19) gX4_checkPart rfl (by decide) rfl (wsl_39 _ (List.mem_of_getElem? (i := 5) rfl)) rfl dX10_addChecks_19 rfl ?_
  refine r_istore dX10_addChecks_22 (Or.inl rfl) (by decide) (lv' := [(6, (0, r19)), (5, (0, r11)), (4, (0, r3)), (0, (20, a0)), (1, (14, a1)), (2, (13, a2)), (3, (0, a3))]) rfl ?_
  refine r_aload_n dX10_addChecks_24 rfl 4 rfl (nl rfl) ?_
  refine r_iload_n dX10_addChecks_25 rfl 6 rfl (Or.inl rfl) ?_
  refine r_iconst dX10_addChecks_26 (by decide) ?_
  obtain ⟨r27, hg27, hr⟩ := bnd hr
  refine k_V (ci := 4) (o := a1) (T := TX4) (as := [(0, a3), (0, 3)]) (rest := []) (X := (some (0, r27), h)) (oX4_checkPart hg27) gX4_checkPart rfl (by decide) rfl (wsl_39 _ (List.mem_of_getElem? (i := 5) rfl)) rfl dX10_addChecks_27 rfl ?_
  refine r_istore dX10_addChecks_30 (Or.inl rfl) (by decide) (lv' := [(7, (0, r27)), (6, (0, r19)), (5, (0, r11)), (4, (0, r3)), (0, (20, a0)), (1, (14, a1)), (2, (13, a2)), (3, (0, a3))]) rfl ?_
  refine r_iconst dX10_addChecks_32 (by decide) ?_
  refine r_istore dX10_addChecks_33 (Or.inl rfl) (by decide) (lv' := [(8, (0, 0)), (7, (0, r27)), (6, (0, r19)), (5, (0, r11)), (4, (0, r3)), (0, (20, a0)), (1, (14, a1)), (2, (13, a2)), (3, (0, a3))]) rfl ?_
  refine r_sub [5, 6, 7, 8, 4, 3, 2, 1, 0] (lv' := [(0, (20, a0)), (1, (14, a1)), (2, (13, a2)), (3, (0, a3)), (4, (0, r3)), (5, (0, r11)), (6, (0, r19)), (7, (0, r27)), (8, (0, 0))]) rfl ?_
  exact lp_ok (w := fun (q : hH × Int) => Wq p l e R s m args below meth c D G A H0 true n0 M_X10_addChecks x 0 0 35 [(0, (20, a0)), (1, (14, a1)), (2, (13, a2)), (3, (0, a3)), (4, (0, r3)), (5, (0, r11)), (6, (0, r19)), (7, (0, r27)), (8, (0, q.2))] [] (q.1)) (K := K) (fun ⟨q0, q1⟩ r h1 h2 => oX10_addChecks_s35 (K := Sum.elim (fun (q : hH × Int) => Wq p l e R s m args below meth c D G A H0 true n0 M_X10_addChecks x 0 0 35 [(0, (20, a0)), (1, (14, a1)), (2, (13, a2)), (3, (0, a3)), (4, (0, r3)), (5, (0, r11)), (6, (0, r19)), (7, (0, r27)), (8, (0, q.2))] [] (q.1)) (K)) (fun r z => k0 r z) (fun _ _ z => z) h1 h2) hr hk
end M_X10_addChecks
theorem oX10_addChecks {l : Launch} {D : va_G} {G : gG} {h : hH} {a0 a1 a2 a3 : Int} {r : hH} (hr : fX10_addChecks h a0 a1 a2 a3 = some r) : Ctr l D G true yX10_addChecks M_X10_addChecks [(20, a0), (14, a1), (13, a2), (0, a3)] h (none, r) :=
  Ctr_of (by decide) rfl (fun z => by cases z) (nl rfl) (fun {p e R s m args below meth c A H0} => by
    exact oX10_addChecks_b0 (K := fun z9 => z9 = r) (fun r9 z => by rw [z]) hr rfl)
/-! X10_scan -/
theorem dX10_scan_0 : decode cX10_scan 0 = .ok (.aload_n 0, 1) := by decide +kernel
theorem dX10_scan_1 : decode cX10_scan 1 = .ok (.iconst 0, 1) := by decide +kernel
theorem dX10_scan_2 : decode cX10_scan 2 = .ok (.putfield 15, 3) := by decide +kernel
theorem dX10_scan_5 : decode cX10_scan 5 = .ok (.iconst 0, 1) := by decide +kernel
theorem dX10_scan_6 : decode cX10_scan 6 = .ok (.istore 4, 2) := by decide +kernel
theorem dX10_scan_8 : decode cX10_scan 8 = .ok (.iload 4, 2) := by decide +kernel
theorem dX10_scan_10 : decode cX10_scan 10 = .ok (.aload_n 1, 1) := by decide +kernel
theorem dX10_scan_11 : decode cX10_scan 11 = .ok (.getfield 19, 3) := by decide +kernel
theorem dX10_scan_14 : decode cX10_scan 14 = .ok (.if_icmp .ge 49, 3) := by decide +kernel
theorem dX10_scan_17 : decode cX10_scan 17 = .ok (.iconst 0, 1) := by decide +kernel
theorem dX10_scan_18 : decode cX10_scan 18 = .ok (.istore 5, 2) := by decide +kernel
theorem dX10_scan_20 : decode cX10_scan 20 = .ok (.iload 5, 2) := by decide +kernel
theorem dX10_scan_22 : decode cX10_scan 22 = .ok (.aload_n 1, 1) := by decide +kernel
theorem dX10_scan_23 : decode cX10_scan 23 = .ok (.iload 4, 2) := by decide +kernel
theorem dX10_scan_25 : decode cX10_scan 25 = .ok (.invokevirtual 24, 3) := by decide +kernel
theorem dX10_scan_28 : decode cX10_scan 28 = .ok (.if_icmp .ge 29, 3) := by decide +kernel
theorem dX10_scan_31 : decode cX10_scan 31 = .ok (.aload_n 1, 1) := by decide +kernel
theorem dX10_scan_32 : decode cX10_scan 32 = .ok (.iload 4, 2) := by decide +kernel
theorem dX10_scan_34 : decode cX10_scan 34 = .ok (.iload 5, 2) := by decide +kernel
theorem dX10_scan_36 : decode cX10_scan 36 = .ok (.invokevirtual 28, 3) := by decide +kernel
theorem dX10_scan_39 : decode cX10_scan 39 = .ok (.ifCond .eq 12, 3) := by decide +kernel
theorem dX10_scan_42 : decode cX10_scan 42 = .ok (.aload_n 0, 1) := by decide +kernel
theorem dX10_scan_43 : decode cX10_scan 43 = .ok (.aload_n 2, 1) := by decide +kernel
theorem dX10_scan_44 : decode cX10_scan 44 = .ok (.iload 4, 2) := by decide +kernel
theorem dX10_scan_46 : decode cX10_scan 46 = .ok (.iload 5, 2) := by decide +kernel
theorem dX10_scan_48 : decode cX10_scan 48 = .ok (.invokevirtual 32, 3) := by decide +kernel
theorem dX10_scan_51 : decode cX10_scan 51 = .ok (.iinc 5 1, 3) := by decide +kernel
theorem dX10_scan_54 : decode cX10_scan 54 = .ok (.goto (-34), 3) := by decide +kernel
theorem dX10_scan_57 : decode cX10_scan 57 = .ok (.iinc 4 1, 3) := by decide +kernel
theorem dX10_scan_60 : decode cX10_scan 60 = .ok (.goto (-52), 3) := by decide +kernel
theorem dX10_scan_63 : decode cX10_scan 63 = .ok (.iconst 0, 1) := by decide +kernel
theorem dX10_scan_64 : decode cX10_scan 64 = .ok (.istore 4, 2) := by decide +kernel
theorem dX10_scan_66 : decode cX10_scan 66 = .ok (.iload 4, 2) := by decide +kernel
theorem dX10_scan_68 : decode cX10_scan 68 = .ok (.aload_n 1, 1) := by decide +kernel
theorem dX10_scan_69 : decode cX10_scan 69 = .ok (.getfield 36, 3) := by decide +kernel
theorem dX10_scan_72 : decode cX10_scan 72 = .ok (.if_icmp .ge 17, 3) := by decide +kernel
theorem dX10_scan_75 : decode cX10_scan 75 = .ok (.aload_n 0, 1) := by decide +kernel
theorem dX10_scan_76 : decode cX10_scan 76 = .ok (.aload_n 1, 1) := by decide +kernel
theorem dX10_scan_77 : decode cX10_scan 77 = .ok (.aload_n 2, 1) := by decide +kernel
theorem dX10_scan_78 : decode cX10_scan 78 = .ok (.iload 4, 2) := by decide +kernel
theorem dX10_scan_80 : decode cX10_scan 80 = .ok (.invokevirtual 39, 3) := by decide +kernel
theorem dX10_scan_83 : decode cX10_scan 83 = .ok (.iinc 4 1, 3) := by decide +kernel
theorem dX10_scan_86 : decode cX10_scan 86 = .ok (.goto (-20), 3) := by decide +kernel
theorem dX10_scan_89 : decode cX10_scan 89 = .ok (.iconst 0, 1) := by decide +kernel
theorem dX10_scan_90 : decode cX10_scan 90 = .ok (.istore 4, 2) := by decide +kernel
theorem dX10_scan_92 : decode cX10_scan 92 = .ok (.iload 4, 2) := by decide +kernel
theorem dX10_scan_94 : decode cX10_scan 94 = .ok (.aload_n 1, 1) := by decide +kernel
theorem dX10_scan_95 : decode cX10_scan 95 = .ok (.getfield 43, 3) := by decide +kernel
theorem dX10_scan_98 : decode cX10_scan 98 = .ok (.if_icmp .ge 32, 3) := by decide +kernel
theorem dX10_scan_101 : decode cX10_scan 101 = .ok (.iload_n 3, 1) := by decide +kernel
theorem dX10_scan_102 : decode cX10_scan 102 = .ok (.ifCond .ne 14, 3) := by decide +kernel
theorem dX10_scan_105 : decode cX10_scan 105 = .ok (.aload_n 1, 1) := by decide +kernel
theorem dX10_scan_106 : decode cX10_scan 106 = .ok (.iload 4, 2) := by decide +kernel
theorem dX10_scan_108 : decode cX10_scan 108 = .ok (.bipush 6, 2) := by decide +kernel
theorem dX10_scan_110 : decode cX10_scan 110 = .ok (.invokevirtual 46, 3) := by decide +kernel
theorem dX10_scan_113 : decode cX10_scan 113 = .ok (.ifCond .ne 11, 3) := by decide +kernel
theorem dX10_scan_116 : decode cX10_scan 116 = .ok (.aload_n 0, 1) := by decide +kernel
theorem dX10_scan_117 : decode cX10_scan 117 = .ok (.aload_n 1, 1) := by decide +kernel
theorem dX10_scan_118 : decode cX10_scan 118 = .ok (.aload_n 2, 1) := by decide +kernel
theorem dX10_scan_119 : decode cX10_scan 119 = .ok (.iload 4, 2) := by decide +kernel
theorem dX10_scan_121 : decode cX10_scan 121 = .ok (.invokevirtual 50, 3) := by decide +kernel
theorem dX10_scan_124 : decode cX10_scan 124 = .ok (.iinc 4 1, 3) := by decide +kernel
theorem dX10_scan_127 : decode cX10_scan 127 = .ok (.goto (-35), 3) := by decide +kernel
theorem dX10_scan_130 : decode cX10_scan 130 = .ok (.iconst 0, 1) := by decide +kernel
theorem dX10_scan_131 : decode cX10_scan 131 = .ok (.istore 4, 2) := by decide +kernel
theorem dX10_scan_133 : decode cX10_scan 133 = .ok (.iload 4, 2) := by decide +kernel
theorem dX10_scan_135 : decode cX10_scan 135 = .ok (.aload_n 1, 1) := by decide +kernel
theorem dX10_scan_136 : decode cX10_scan 136 = .ok (.getfield 53, 3) := by decide +kernel
theorem dX10_scan_139 : decode cX10_scan 139 = .ok (.if_icmp .ge 31, 3) := by decide +kernel
theorem dX10_scan_142 : decode cX10_scan 142 = .ok (.iload_n 3, 1) := by decide +kernel
theorem dX10_scan_143 : decode cX10_scan 143 = .ok (.ifCond .ne 13, 3) := by decide +kernel
theorem dX10_scan_146 : decode cX10_scan 146 = .ok (.aload_n 1, 1) := by decide +kernel
theorem dX10_scan_147 : decode cX10_scan 147 = .ok (.iload 4, 2) := by decide +kernel
theorem dX10_scan_149 : decode cX10_scan 149 = .ok (.iconst 5, 1) := by decide +kernel
theorem dX10_scan_150 : decode cX10_scan 150 = .ok (.invokevirtual 56, 3) := by decide +kernel
theorem dX10_scan_153 : decode cX10_scan 153 = .ok (.ifCond .ne 11, 3) := by decide +kernel
theorem dX10_scan_156 : decode cX10_scan 156 = .ok (.aload_n 0, 1) := by decide +kernel
theorem dX10_scan_157 : decode cX10_scan 157 = .ok (.aload_n 1, 1) := by decide +kernel
theorem dX10_scan_158 : decode cX10_scan 158 = .ok (.aload_n 2, 1) := by decide +kernel
theorem dX10_scan_159 : decode cX10_scan 159 = .ok (.iload 4, 2) := by decide +kernel
theorem dX10_scan_161 : decode cX10_scan 161 = .ok (.invokevirtual 59, 3) := by decide +kernel
theorem dX10_scan_164 : decode cX10_scan 164 = .ok (.iinc 4 1, 3) := by decide +kernel
theorem dX10_scan_167 : decode cX10_scan 167 = .ok (.goto (-34), 3) := by decide +kernel
theorem dX10_scan_170 : decode cX10_scan 170 = .ok (.aload_n 0, 1) := by decide +kernel
theorem dX10_scan_171 : decode cX10_scan 171 = .ok (.getfield 15, 3) := by decide +kernel
theorem dX10_scan_174 : decode cX10_scan 174 = .ok (.ireturn, 1) := by decide +kernel
abbrev M_X10_scan : mM := (cX10_scan, 6, RX10, some .int, false, 4, 105, 0, 0)
theorem gX10_scan : cI yX10_scan M_X10_scan 3 := ⟨(wsl_37 _ (List.mem_of_getElem? (i := 10) rfl)), (wsl_37 _ (List.mem_of_getElem? (i := 11) rfl)), (wsl_6 _ (List.mem_of_getElem? (i := 0) rfl)), (wsl_37 _ (List.mem_of_getElem? (i := 12) rfl)), by decide +kernel⟩
noncomputable def fX10_scan_s20 (h0 : hH) (a0 a1 a2 a3 l4 : Int) : hH × Int → Option ((hH × Int) ⊕ ((hH × Int) ⊕ (Int × hH))) := fun (h, l5) =>
  (fX4_width h a1 l4).bind fun r25 =>
  if l5 < r25 then
    (fX4_needed h a1 l4 l5).bind fun r36 =>
    if r36 = 0 then
      some (.inl (h, w32 (l5 + 1)))
    else
      (fX10_addNeeds h a0 a2 l4 l5).bind fun h48 =>
      some (.inl (h48, w32 (l5 + 1)))
  else
    some (.inr (.inl (h, w32 (l4 + 1))))
noncomputable def fX10_scan_b116 (h : hH) (a0 a1 a2 a3 l4 : Int) : Option ((hH × Int) ⊕ (Int × hH)) :=
  (fX10_addRefs h a0 a1 a2 l4).bind fun h121 =>
  some (.inl (h121, w32 (l4 + 1)))
noncomputable def fX10_scan_b156 (h : hH) (a0 a1 a2 a3 l4 : Int) : Option ((hH × Int) ⊕ (Int × hH)) :=
  (fX10_addChecks h a0 a1 a2 l4).bind fun h161 =>
  some (.inl (h161, w32 (l4 + 1)))
noncomputable def fX10_scan_s133 (h0 : hH) (a0 a1 a2 a3 : Int) : hH × Int → Option ((hH × Int) ⊕ (Int × hH)) := fun (h, l4) =>
  if l4 < h a1 3 then
    if a3 = 0 then
      (fX4_checkPart h a1 l4 5).bind fun r150 =>
      if r150 = 0 then
        fX10_scan_b156 h a0 a1 a2 a3 l4
      else
        some (.inl (h, w32 (l4 + 1)))
    else
      fX10_scan_b156 h a0 a1 a2 a3 l4
  else
    some (.inr ((h a0 0, h)))
noncomputable def fX10_scan_s92 (h0 : hH) (a0 a1 a2 a3 : Int) : hH × Int → Option ((hH × Int) ⊕ (Int × hH)) := fun (h, l4) =>
  if l4 < h a1 2 then
    if a3 = 0 then
      (fX4_refPart h a1 l4 6).bind fun r110 =>
      if r110 = 0 then
        fX10_scan_b116 h a0 a1 a2 a3 l4
      else
        some (.inl (h, w32 (l4 + 1)))
    else
      fX10_scan_b116 h a0 a1 a2 a3 l4
  else
    (lpO (fX10_scan_s133 h a0 a1 a2 a3) (h, 0)).map (fun z9 => .inr (z9))
noncomputable def fX10_scan_s66 (h0 : hH) (a0 a1 a2 a3 : Int) : hH × Int → Option ((hH × Int) ⊕ (Int × hH)) := fun (h, l4) =>
  if l4 < h a1 1 then
    (fX10_addKeys h a0 a1 a2 l4).bind fun h80 =>
    some (.inl (h80, w32 (l4 + 1)))
  else
    (lpO (fX10_scan_s92 h a0 a1 a2 a3) (h, 0)).map (fun z9 => .inr (z9))
noncomputable def fX10_scan_s8 (h0 : hH) (a0 a1 a2 a3 : Int) : hH × Int → Option ((hH × Int) ⊕ (Int × hH)) := fun (h, l4) =>
  if l4 < h a1 0 then
    lpO (fX10_scan_s20 h a0 a1 a2 a3 l4) (h, 0)
  else
    (lpO (fX10_scan_s66 h a0 a1 a2 a3) (h, 0)).map (fun z9 => .inr (z9))
noncomputable def fX10_scan (h : hH) (a0 a1 a2 a3 : Int) : Option (Int × hH) :=
  (pput h a0 0 0).bind fun h2 =>
  lpO (fX10_scan_s8 h2 a0 a1 a2 a3) (h2, 0)
section M_X10_scan
variable {p : Program} {l : Launch} {e : Env} {R : Room} {s : State} {m : MethodId} {args : Array Value} {below : List Frame} {meth : Method} {c : Code} {D : va_G} {G : gG} {A : Nat → Prop} {H0 : Heap} {n0 : Int} {x : Option vV × hH} {h : hH}
set_option maxRecDepth 100000 in
set_option maxHeartbeats 4000000 in
theorem oX10_scan_s20 {h0 : hH} {a0 a1 a2 a3 l4 l5 : Int} {K : (hH × Int) ⊕ ((hH × Int) ⊕ (Int × hH)) → Prop} (k0 : ∀ r, K (.inr (.inr (r))) → x = (some (0, r.1), r.2)) (k1 : ∀ (h : hH) (l4 : Int), K (.inr (.inl (h, l4))) → Wq p l e R s m args below meth c D G A H0 true n0 M_X10_scan x 0 0 8 [(0, (20, a0)), (1, (14, a1)), (2, (13, a2)), (3, (2, a3)), (4, (0, l4))] [] h) (k2 : ∀ (h : hH) (l5 : Int), K (.inl (h, l5)) → Wq p l e R s m args below meth c D G A H0 true n0 M_X10_scan x 0 0 20 [(0, (20, a0)), (1, (14, a1)), (2, (13, a2)), (3, (2, a3)), (4, (0, l4)), (5, (0, l5))] [] h) {r : (hH × Int) ⊕ ((hH × Int) ⊕ (Int × hH))} (hr : fX10_scan_s20 h0 a0 a1 a2 a3 l4 (h, l5) = some r) (hk : K r) : Wq p l e R s m args below meth c D G A H0 true n0 M_X10_scan x 0 0 20 [(0, (20, a0)), (1, (14, a1)), (2, (13, a2)), (3, (2, a3)), (4, (0, l4)), (5, (0, l5))] [] h := by
  unfold fX10_scan_s20 at hr
  refine r_iload dX10_scan_20 5 rfl (Or.inl rfl) ?_
  refine r_aload_n dX10_scan_22 rfl 1 rfl (nl rfl) ?_
  refine r_iload dX10_scan_23 4 rfl (Or.inl rfl) ?_
  obtain ⟨r25, hg25, hr⟩ := bnd hr
  refine k_V (ci := 4) (o := a1) (T := TX4) (as := [(0, l4)]) (rest := [(0, l5)]) (X := (some (0, r25), h)) (oX4_width hg25) gX4_width rfl (by decide) rfl (wsl_37 _ (List.mem_of_getElem? (i := 17) rfl)) rfl dX10_scan_25 rfl ?_
  refine r_icmp_ge dX10_scan_28 (tgt := 57) (by decide) (fun hc => ?_) (fun hc => ?_)
  · have hr := ifn hr hc
    refine r_iinc (k := 4) (v := l4) dX10_scan_57 rfl (by decide) (lv' := [(4, (0, w32 (l4 + 1))), (0, (20, a0)), (1, (14, a1)), (2, (13, a2)), (3, (2, a3)), (5, (0, l5))]) rfl ?_
    refine r_goto dX10_scan_60 (tgt := 8) (by decide) ?_
    refine r_sub [1, 2, 3, 4, 0] (lv' := [(0, (20, a0)), (1, (14, a1)), (2, (13, a2)), (3, (2, a3)), (4, (0, w32 (l4 + 1)))]) rfl ?_
    obtain rfl := Option.some.inj hr
    exact k1 _ _ hk
  · have hr := ifp hr hc
    refine r_aload_n dX10_scan_31 rfl 1 rfl (nl rfl) ?_
    refine r_iload dX10_scan_32 4 rfl (Or.inl rfl) ?_
    refine r_iload dX10_scan_34 5 rfl (Or.inl rfl) ?_
    obtain ⟨r36, hg36, hr⟩ := bnd hr
    refine k_V (ci := 4) (o := a1) (T := TX4) (as := [(0, l4), (0, l5)]) (rest := []) (X := (some (2, r36), h)) (oX4_needed hg36) gX4_needed rfl (by decide) rfl (wsl_37 _ (List.mem_of_getElem? (i := 18) rfl)) rfl dX10_scan_36 rfl ?_
    refine r_scast 0 (v := (2, r36)) (w := (0, r36)) rfl zc hTz (st' := [(0, r36)]) rfl ?_
    refine r_if_eq dX10_scan_39 (tgt := 51) (by decide) (fun hc => ?_) (fun hc => ?_)
    · have hr := ifp hr hc
      refine r_iinc (k := 5) (v := l5) dX10_scan_51 rfl (by decide) (lv' := [(5, (0, w32 (l5 + 1))), (0, (20, a0)), (1, (14, a1)), (2, (13, a2)), (3, (2, a3)), (4, (0, l4))]) rfl ?_
      refine r_goto dX10_scan_54 (tgt := 20) (by decide) ?_
      refine r_sub [1, 2, 3, 4, 5, 0] (lv' := [(0, (20, a0)), (1, (14, a1)), (2, (13, a2)), (3, (2, a3)), (4, (0, l4)), (5, (0, w32 (l5 + 1)))]) rfl ?_
      obtain rfl := Option.some.inj hr
      exact k2 _ _ hk
    · have hr := ifn hr hc
      refine r_aload_n dX10_scan_42 rfl 0 rfl (nl rfl) ?_
      refine r_aload_n dX10_scan_43 rfl 2 rfl (nl rfl) ?_
      refine r_iload dX10_scan_44 4 rfl (Or.inl rfl) ?_
      refine r_iload dX10_scan_46 5 rfl (Or.inl rfl) ?_
      obtain ⟨h48, hg48, hr⟩ := bnd hr
      refine k_V (ci := 10) (o := a0) (T := TX10) (as := [(13, a2), (0, l4), (0, l5)]) (rest := []) (X := (none, h48)) (oX10_addNeeds hg48) gX10_addNeeds rfl (by decide) rfl (wsl_38 _ (List.mem_of_getElem? (i := 3) rfl)) rfl dX10_scan_48 rfl ?_
      refine r_iinc (k := 5) (v := l5) dX10_scan_51 rfl (by decide) (lv' := [(5, (0, w32 (l5 + 1))), (0, (20, a0)), (1, (14, a1)), (2, (13, a2)), (3, (2, a3)), (4, (0, l4))]) rfl ?_
      refine r_goto dX10_scan_54 (tgt := 20) (by decide) ?_
      refine r_sub [1, 2, 3, 4, 5, 0] (lv' := [(0, (20, a0)), (1, (14, a1)), (2, (13, a2)), (3, (2, a3)), (4, (0, l4)), (5, (0, w32 (l5 + 1)))]) rfl ?_
      obtain rfl := Option.some.inj hr
      exact k2 _ _ hk
set_option maxRecDepth 100000 in
set_option maxHeartbeats 4000000 in
theorem oX10_scan_b116 {a0 a1 a2 a3 l4 : Int} {K : (hH × Int) ⊕ (Int × hH) → Prop} (k0 : ∀ r, K (.inr (r)) → x = (some (0, r.1), r.2)) (k1 : ∀ (h : hH) (l4 : Int), K (.inl (h, l4)) → Wq p l e R s m args below meth c D G A H0 true n0 M_X10_scan x 0 0 92 [(0, (20, a0)), (1, (14, a1)), (2, (13, a2)), (3, (2, a3)), (4, (0, l4))] [] h) {r : (hH × Int) ⊕ (Int × hH)} (hr : fX10_scan_b116 h a0 a1 a2 a3 l4 = some r) (hk : K r) : Wq p l e R s m args below meth c D G A H0 true n0 M_X10_scan x 0 0 116 [(0, (20, a0)), (1, (14, a1)), (2, (13, a2)), (3, (2, a3)), (4, (0, l4))] [] h := by
  unfold fX10_scan_b116 at hr
  refine r_aload_n dX10_scan_116 rfl 0 rfl (nl rfl) ?_
  refine r_aload_n dX10_scan_117 rfl 1 rfl (nl rfl) ?_
  refine r_aload_n dX10_scan_118 rfl 2 rfl (nl rfl) ?_
  refine r_iload dX10_scan_119 4 rfl (Or.inl rfl) ?_
  obtain ⟨h121, hg121, hr⟩ := bnd hr
  refine k_V (ci := 10) (o := a0) (T := TX10) (as := [(14, a1), (13, a2), (0, l4)]) (rest := []) (X := (none, h121)) (oX10_addRefs hg121) gX10_addRefs rfl (by decide) rfl (wsl_39 _ (List.mem_of_getElem? (i := 0) rfl)) rfl dX10_scan_121 rfl ?_
  refine r_iinc (k := 4) (v := l4) dX10_scan_124 rfl (by decide) (lv' := [(4, (0, w32 (l4 + 1))), (0, (20, a0)), (1, (14, a1)), (2, (13, a2)), (3, (2, a3))]) rfl ?_
  refine r_goto dX10_scan_127 (tgt := 92) (by decide) ?_
  refine r_sub [1, 2, 3, 4, 0] (lv' := [(0, (20, a0)), (1, (14, a1)), (2, (13, a2)), (3, (2, a3)), (4, (0, w32 (l4 + 1)))]) rfl ?_
  obtain rfl := Option.some.inj hr
  exact k1 _ _ hk
set_option maxRecDepth 100000 in
set_option maxHeartbeats 4000000 in
theorem oX10_scan_b156 {a0 a1 a2 a3 l4 : Int} {K : (hH × Int) ⊕ (Int × hH) → Prop} (k0 : ∀ r, K (.inr (r)) → x = (some (0, r.1), r.2)) (k1 : ∀ (h : hH) (l4 : Int), K (.inl (h, l4)) → Wq p l e R s m args below meth c D G A H0 true n0 M_X10_scan x 0 0 133 [(0, (20, a0)), (1, (14, a1)), (2, (13, a2)), (3, (2, a3)), (4, (0, l4))] [] h) {r : (hH × Int) ⊕ (Int × hH)} (hr : fX10_scan_b156 h a0 a1 a2 a3 l4 = some r) (hk : K r) : Wq p l e R s m args below meth c D G A H0 true n0 M_X10_scan x 0 0 156 [(0, (20, a0)), (1, (14, a1)), (2, (13, a2)), (3, (2, a3)), (4, (0, l4))] [] h := by
  unfold fX10_scan_b156 at hr
  refine r_aload_n dX10_scan_156 rfl 0 rfl (nl rfl) ?_
  refine r_aload_n dX10_scan_157 rfl 1 rfl (nl rfl) ?_
  refine r_aload_n dX10_scan_158 rfl 2 rfl (nl rfl) ?_
  refine r_iload dX10_scan_159 4 rfl (Or.inl rfl) ?_
  obtain ⟨h161, hg161, hr⟩ := bnd hr
  refine k_V (ci := 10) (o := a0) (T := TX10) (as := [(14, a1), (13, a2), (0, l4)]) (rest := []) (X := (none, h161)) (oX10_addChecks hg161) gX10_addChecks rfl (by decide) rfl (wsl_39 _ (List.mem_of_getElem? (i := 9) rfl)) rfl dX10_scan_161 rfl ?_
  refine r_iinc (k := 4) (v := l4) dX10_scan_164 rfl (by decide) (lv' := [(4, (0, w32 (l4 + 1))), (0, (20, a0)), (1, (14, a1)), (2, (13, a2)), (3, (2, a3))]) rfl ?_
  refine r_goto dX10_scan_167 (tgt := 133) (by decide) ?_
  refine r_sub [1, 2, 3, 4, 0] (lv' := [(0, (20, a0)), (1, (14, a1)), (2, (13, a2)), (3, (2, a3)), (4, (0, w32 (l4 + 1)))]) rfl ?_
  obtain rfl := Option.some.inj hr
  exact k1 _ _ hk
set_option maxRecDepth 100000 in
set_option maxHeartbeats 4000000 in
theorem oX10_scan_s133 {h0 : hH} {a0 a1 a2 a3 l4 : Int} {K : (hH × Int) ⊕ (Int × hH) → Prop} (k0 : ∀ r, K (.inr (r)) → x = (some (0, r.1), r.2)) (k1 : ∀ (h : hH) (l4 : Int), K (.inl (h, l4)) → Wq p l e R s m args below meth c D G A H0 true n0 M_X10_scan x 0 0 133 [(0, (20, a0)), (1, (14, a1)), (2, (13, a2)), (3, (2, a3)), (4, (0, l4))] [] h) {r : (hH × Int) ⊕ (Int × hH)} (hr : fX10_scan_s133 h0 a0 a1 a2 a3 (h, l4) = some r) (hk : K r) : Wq p l e R s m args below meth c D G A H0 true n0 M_X10_scan x 0 0 133 [(0, (20, a0)), (1, (14, a1)), (2, (13, a2)), (3, (2, a3)), (4, (0, l4))] [] h := by
  unfold fX10_scan_s133 at hr
  refine r_iload dX10_scan_133 4 rfl (Or.inl rfl) ?_
  refine r_aload_n dX10_scan_135 rfl 1 rfl (nl rfl) ?_
  refine r_get 4 3 (o := a1) (w := (0, h a1 3)) (T := TX4) (ref := "FollowingRefs$Schema") rfl (by decide) rfl (by decide) inlX4 (wsl_37 _ (List.mem_of_getElem? (i := 16) rfl)) rfl dX10_scan_136 rfl ?_
  refine r_icmp_ge dX10_scan_139 (tgt := 170) (by decide) (fun hc => ?_) (fun hc => ?_)
  · have hr := ifn hr hc
    refine r_aload_n dX10_scan_170 rfl 0 rfl (nl rfl) ?_
    refine r_get 10 0 (o := a0) (w := (0, h a0 0)) (T := TX10) (ref := "FollowingRefs$Violations") rfl (by decide) rfl (by decide) inlX10 (wsl_32 _ (List.mem_of_getElem? (i := 15) rfl)) rfl dX10_scan_171 rfl ?_
    obtain rfl := Option.some.inj hr
    exact r_ret dX10_scan_174 rfl (Or.inl ⟨rfl, rfl⟩) (k0 _ hk) ⟨rfl, rfl⟩
  · have hr := ifp hr hc
    refine r_iload_n dX10_scan_142 rfl 3 rfl (Or.inr rfl) ?_
    refine r_scast 0 (v := (2, a3)) (w := (0, a3)) rfl zc hTz (st' := [(0, a3)]) rfl ?_
    refine r_if_ne dX10_scan_143 (tgt := 156) (by decide) (fun hc => ?_) (fun hc => ?_)
    · have hr := ifn hr hc
      exact oX10_scan_b156 (K := K) (fun r z => k0 r z) (fun _ _ z => k1 _ _ z) hr hk
    · have hr := ifp hr hc
      refine r_aload_n dX10_scan_146 rfl 1 rfl (nl rfl) ?_
      refine r_iload dX10_scan_147 4 rfl (Or.inl rfl) ?_
      refine r_iconst dX10_scan_149 (by decide) ?_
      obtain ⟨r150, hg150, hr⟩ := bnd hr
      refine k_V (ci := 4) (o := a1) (T := TX4) (as := [(0, l4), (0, 5)]) (rest := []) (X := (some (0, r150), h)) (oX4_checkPart hg150) gX4_checkPart rfl (by decide) rfl (wsl_39 _ (List.mem_of_getElem? (i := 5) rfl)) rfl dX10_scan_150 rfl ?_
      refine r_if_ne dX10_scan_153 (tgt := 164) (by decide) (fun hc => ?_) (fun hc => ?_)
      · have hr := ifn hr hc
        refine r_iinc (k := 4) (v := l4) dX10_scan_164 rfl (by decide) (lv' := [(4, (0, w32 (l4 + 1))), (0, (20, a0)), (1, (14, a1)), (2, (13, a2)), (3, (2, a3))]) rfl ?_
        refine r_goto dX10_scan_167 (tgt := 133) (by decide) ?_
        refine r_sub [1, 2, 3, 4, 0] (lv' := [(0, (20, a0)), (1, (14, a1)), (2, (13, a2)), (3, (2, a3)), (4, (0, w32 (l4 + 1)))]) rfl ?_
        obtain rfl := Option.some.inj hr
        exact k1 _ _ hk
      · have hr := ifp hr hc
        exact oX10_scan_b156 (K := K) (fun r z => k0 r z) (fun _ _ z => k1 _ _ z) hr hk
set_option maxRecDepth 100000 in
set_option maxHeartbeats 4000000 in
theorem oX10_scan_s92 {h0 : hH} {a0 a1 a2 a3 l4 : Int} {K : (hH × Int) ⊕ (Int × hH) → Prop} (k0 : ∀ r, K (.inr (r)) → x = (some (0, r.1), r.2)) (k1 : ∀ (h : hH) (l4 : Int), K (.inl (h, l4)) → Wq p l e R s m args below meth c D G A H0 true n0 M_X10_scan x 0 0 92 [(0, (20, a0)), (1, (14, a1)), (2, (13, a2)), (3, (2, a3)), (4, (0, l4))] [] h) {r : (hH × Int) ⊕ (Int × hH)} (hr : fX10_scan_s92 h0 a0 a1 a2 a3 (h, l4) = some r) (hk : K r) : Wq p l e R s m args below meth c D G A H0 true n0 M_X10_scan x 0 0 92 [(0, (20, a0)), (1, (14, a1)), (2, (13, a2)), (3, (2, a3)), (4, (0, l4))] [] h := by
  unfold fX10_scan_s92 at hr
  refine r_iload dX10_scan_92 4 rfl (Or.inl rfl) ?_
  refine r_aload_n dX10_scan_94 rfl 1 rfl (nl rfl) ?_
  refine r_get 4 2 (o := a1) (w := (0, h a1 2)) (T := TX4) (ref := "FollowingRefs$Schema") rfl (by decide) rfl (by decide) inlX4 (wsl_37 _ (List.mem_of_getElem? (i := 15) rfl)) rfl dX10_scan_95 rfl ?_
  refine r_icmp_ge dX10_scan_98 (tgt := 130) (by decide) (fun hc => ?_) (fun hc => ?_)
  · have hr := ifn hr hc
    refine r_iconst dX10_scan_130 (by decide) ?_
    refine r_istore dX10_scan_131 (Or.inl rfl) (by decide) (lv' := [(4, (0, 0)), (0, (20, a0)), (1, (14, a1)), (2, (13, a2)), (3, (2, a3))]) rfl ?_
    refine r_sub [1, 2, 3, 4, 0] (lv' := [(0, (20, a0)), (1, (14, a1)), (2, (13, a2)), (3, (2, a3)), (4, (0, 0))]) rfl ?_
    obtain ⟨r9, hr9, rfl⟩ := mpp hr
    exact lp_ok (w := fun (q : hH × Int) => Wq p l e R s m args below meth c D G A H0 true n0 M_X10_scan x 0 0 133 [(0, (20, a0)), (1, (14, a1)), (2, (13, a2)), (3, (2, a3)), (4, (0, q.2))] [] (q.1)) (K := fun z9 => K (.inr (z9))) (fun ⟨q0, q1⟩ r h1 h2 => oX10_scan_s133 (K := Sum.elim (fun (q : hH × Int) => Wq p l e R s m args below meth c D G A H0 true n0 M_X10_scan x 0 0 133 [(0, (20, a0)), (1, (14, a1)), (2, (13, a2)), (3, (2, a3)), (4, (0, q.2))] [] (q.1)) (fun z9 => K (.inr (z9)))) (fun r z => k0 r z) (fun _ _ z => z) h1 h2) hr9 hk
  · have hr := ifp hr hc
    refine r_iload_n dX10_scan_101 rfl 3 rfl (Or.inr rfl) ?_
    refine r_scast 0 (v := (2, a3)) (w := (0, a3)) rfl zc hTz (st' := [(0, a3)]) rfl ?_
    refine r_if_ne dX10_scan_102 (tgt := 116) (by decide) (fun hc => ?_) (fun hc => ?_)
    · have hr := ifn hr hc
      exact oX10_scan_b116 (K := K) (fun r z => k0 r z) (fun _ _ z => k1 _ _ z) hr hk
    · have hr := ifp hr hc
      refine r_aload_n dX10_scan_105 rfl 1 rfl (nl rfl) ?_
      refine r_iload dX10_scan_106 4 rfl (Or.inl rfl) ?_
      refine r_bipush dX10_scan_108 (by decide) (by decide) ?_
      obtain ⟨r110, hg110, hr⟩ := bnd hr
      refine k_V (ci := 4) (o := a1) (T := TX4) (as := [(0, l4), (0, 6)]) (rest := []) (X := (some (0, r110), h)) (oX4_refPart hg110) gX4_refPart rfl (by decide) rfl (wsl_38 _ (List.mem_of_getElem? (i := 23) rfl)) rfl dX10_scan_110 rfl ?_
      refine r_if_ne dX10_scan_113 (tgt := 124) (by decide) (fun hc => ?_) (fun hc => ?_)
      · have hr := ifn hr hc
        refine r_iinc (k := 4) (v := l4) dX10_scan_124 rfl (by decide) (lv' := [(4, (0, w32 (l4 + 1))), (0, (20, a0)), (1, (14, a1)), (2, (13, a2)), (3, (2, a3))]) rfl ?_
        refine r_goto dX10_scan_127 (tgt := 92) (by decide) ?_
        refine r_sub [1, 2, 3, 4, 0] (lv' := [(0, (20, a0)), (1, (14, a1)), (2, (13, a2)), (3, (2, a3)), (4, (0, w32 (l4 + 1)))]) rfl ?_
        obtain rfl := Option.some.inj hr
        exact k1 _ _ hk
      · have hr := ifp hr hc
        exact oX10_scan_b116 (K := K) (fun r z => k0 r z) (fun _ _ z => k1 _ _ z) hr hk
set_option maxRecDepth 100000 in
set_option maxHeartbeats 4000000 in
theorem oX10_scan_s66 {h0 : hH} {a0 a1 a2 a3 l4 : Int} {K : (hH × Int) ⊕ (Int × hH) → Prop} (k0 : ∀ r, K (.inr (r)) → x = (some (0, r.1), r.2)) (k1 : ∀ (h : hH) (l4 : Int), K (.inl (h, l4)) → Wq p l e R s m args below meth c D G A H0 true n0 M_X10_scan x 0 0 66 [(0, (20, a0)), (1, (14, a1)), (2, (13, a2)), (3, (2, a3)), (4, (0, l4))] [] h) {r : (hH × Int) ⊕ (Int × hH)} (hr : fX10_scan_s66 h0 a0 a1 a2 a3 (h, l4) = some r) (hk : K r) : Wq p l e R s m args below meth c D G A H0 true n0 M_X10_scan x 0 0 66 [(0, (20, a0)), (1, (14, a1)), (2, (13, a2)), (3, (2, a3)), (4, (0, l4))] [] h := by
  unfold fX10_scan_s66 at hr
  refine r_iload dX10_scan_66 4 rfl (Or.inl rfl) ?_
  refine r_aload_n dX10_scan_68 rfl 1 rfl (nl rfl) ?_
  refine r_get 4 1 (o := a1) (w := (0, h a1 1)) (T := TX4) (ref := "FollowingRefs$Schema") rfl (by decide) rfl (by decide) inlX4 (wsl_37 _ (List.mem_of_getElem? (i := 14) rfl)) rfl dX10_scan_69 rfl ?_
  refine r_icmp_ge dX10_scan_72 (tgt := 89) (by decide) (fun hc => ?_) (fun hc => ?_)
  · have hr := ifn hr hc
    refine r_iconst dX10_scan_89 (by decide) ?_
    refine r_istore dX10_scan_90 (Or.inl rfl) (by decide) (lv' := [(4, (0, 0)), (0, (20, a0)), (1, (14, a1)), (2, (13, a2)), (3, (2, a3))]) rfl ?_
    refine r_sub [1, 2, 3, 4, 0] (lv' := [(0, (20, a0)), (1, (14, a1)), (2, (13, a2)), (3, (2, a3)), (4, (0, 0))]) rfl ?_
    obtain ⟨r9, hr9, rfl⟩ := mpp hr
    exact lp_ok (w := fun (q : hH × Int) => Wq p l e R s m args below meth c D G A H0 true n0 M_X10_scan x 0 0 92 [(0, (20, a0)), (1, (14, a1)), (2, (13, a2)), (3, (2, a3)), (4, (0, q.2))] [] (q.1)) (K := fun z9 => K (.inr (z9))) (fun ⟨q0, q1⟩ r h1 h2 => oX10_scan_s92 (K := Sum.elim (fun (q : hH × Int) => Wq p l e R s m args below meth c D G A H0 true n0 M_X10_scan x 0 0 92 [(0, (20, a0)), (1, (14, a1)), (2, (13, a2)), (3, (2, a3)), (4, (0, q.2))] [] (q.1)) (fun z9 => K (.inr (z9)))) (fun r z => k0 r z) (fun _ _ z => z) h1 h2) hr9 hk
  · have hr := ifp hr hc
    refine r_aload_n dX10_scan_75 rfl 0 rfl (nl rfl) ?_
    refine r_aload_n dX10_scan_76 rfl 1 rfl (nl rfl) ?_
    refine r_aload_n dX10_scan_77 rfl 2 rfl (nl rfl) ?_
    refine r_iload dX10_scan_78 4 rfl (Or.inl rfl) ?_
    obtain ⟨h80, hg80, hr⟩ := bnd hr
    refine k_V (ci := 10) (o := a0) (T := TX10) (as := [(14, a1), (13, a2), (0, l4)]) (rest := []) (X := (none, h80)) (oX10_addKeys hg80) gX10_addKeys rfl (by decide) rfl (wsl_38 _ (List.mem_of_getElem? (i := 15) rfl)) rfl dX10_scan_80 rfl ?_
    refine r_iinc (k := 4) (v := l4) dX10_scan_83 rfl (by decide) (lv' := [(4, (0, w32 (l4 + 1))), (0, (20, a0)), (1, (14, a1)), (2, (13, a2)), (3, (2, a3))]) rfl ?_
    refine r_goto dX10_scan_86 (tgt := 66) (by decide) ?_
    refine r_sub [1, 2, 3, 4, 0] (lv' := [(0, (20, a0)), (1, (14, a1)), (2, (13, a2)), (3, (2, a3)), (4, (0, w32 (l4 + 1)))]) rfl ?_
    obtain rfl := Option.some.inj hr
    exact k1 _ _ hk
set_option maxRecDepth 100000 in
set_option maxHeartbeats 4000000 in
theorem oX10_scan_s8 {h0 : hH} {a0 a1 a2 a3 l4 : Int} {K : (hH × Int) ⊕ (Int × hH) → Prop} (k0 : ∀ r, K (.inr (r)) → x = (some (0, r.1), r.2)) (k1 : ∀ (h : hH) (l4 : Int), K (.inl (h, l4)) → Wq p l e R s m args below meth c D G A H0 true n0 M_X10_scan x 0 0 8 [(0, (20, a0)), (1, (14, a1)), (2, (13, a2)), (3, (2, a3)), (4, (0, l4))] [] h) {r : (hH × Int) ⊕ (Int × hH)} (hr : fX10_scan_s8 h0 a0 a1 a2 a3 (h, l4) = some r) (hk : K r) : Wq p l e R s m args below meth c D G A H0 true n0 M_X10_scan x 0 0 8 [(0, (20, a0)), (1, (14, a1)), (2, (13, a2)), (3, (2, a3)), (4, (0, l4))] [] h := by
  unfold fX10_scan_s8 at hr
  refine r_iload dX10_scan_8 4 rfl (Or.inl rfl) ?_
  refine r_aload_n dX10_scan_10 rfl 1 rfl (nl rfl) ?_
  refine r_get 4 0 (o := a1) (w := (0, h a1 0)) (T := TX4) (ref := "FollowingRefs$Schema") rfl (by decide) rfl (by decide) inlX4 (wsl_37 _ (List.mem_of_getElem? (i := 13) rfl)) rfl dX10_scan_11 rfl ?_
  refine r_icmp_ge dX10_scan_14 (tgt := 63) (by decide) (fun hc => ?_) (fun hc => ?_)
  · have hr := ifn hr hc
    refine r_iconst dX10_scan_63 (by decide) ?_
    refine r_istore dX10_scan_64 (Or.inl rfl) (by decide) (lv' := [(4, (0, 0)), (0, (20, a0)), (1, (14, a1)), (2, (13, a2)), (3, (2, a3))]) rfl ?_
    refine r_sub [1, 2, 3, 4, 0] (lv' := [(0, (20, a0)), (1, (14, a1)), (2, (13, a2)), (3, (2, a3)), (4, (0, 0))]) rfl ?_
    obtain ⟨r9, hr9, rfl⟩ := mpp hr
    exact lp_ok (w := fun (q : hH × Int) => Wq p l e R s m args below meth c D G A H0 true n0 M_X10_scan x 0 0 66 [(0, (20, a0)), (1, (14, a1)), (2, (13, a2)), (3, (2, a3)), (4, (0, q.2))] [] (q.1)) (K := fun z9 => K (.inr (z9))) (fun ⟨q0, q1⟩ r h1 h2 => oX10_scan_s66 (K := Sum.elim (fun (q : hH × Int) => Wq p l e R s m args below meth c D G A H0 true n0 M_X10_scan x 0 0 66 [(0, (20, a0)), (1, (14, a1)), (2, (13, a2)), (3, (2, a3)), (4, (0, q.2))] [] (q.1)) (fun z9 => K (.inr (z9)))) (fun r z => k0 r z) (fun _ _ z => z) h1 h2) hr9 hk
  · have hr := ifp hr hc
    refine r_iconst dX10_scan_17 (by decide) ?_
    refine r_istore dX10_scan_18 (Or.inl rfl) (by decide) (lv' := [(5, (0, 0)), (0, (20, a0)), (1, (14, a1)), (2, (13, a2)), (3, (2, a3)), (4, (0, l4))]) rfl ?_
    refine r_sub [1, 2, 3, 4, 5, 0] (lv' := [(0, (20, a0)), (1, (14, a1)), (2, (13, a2)), (3, (2, a3)), (4, (0, l4)), (5, (0, 0))]) rfl ?_
    exact lp_ok (w := fun (q : hH × Int) => Wq p l e R s m args below meth c D G A H0 true n0 M_X10_scan x 0 0 20 [(0, (20, a0)), (1, (14, a1)), (2, (13, a2)), (3, (2, a3)), (4, (0, l4)), (5, (0, q.2))] [] (q.1)) (K := K) (fun ⟨q0, q1⟩ r h1 h2 => oX10_scan_s20 (K := Sum.elim (fun (q : hH × Int) => Wq p l e R s m args below meth c D G A H0 true n0 M_X10_scan x 0 0 20 [(0, (20, a0)), (1, (14, a1)), (2, (13, a2)), (3, (2, a3)), (4, (0, l4)), (5, (0, q.2))] [] (q.1)) (K)) (fun r z => k0 r z) (fun _ _ z => k1 _ _ z) (fun _ _ z => z) h1 h2) hr hk
set_option maxRecDepth 100000 in
set_option maxHeartbeats 4000000 in
theorem oX10_scan_b0 {a0 a1 a2 a3 : Int} {K : Int × hH → Prop} (k0 : ∀ r, K (r) → x = (some (0, r.1), r.2)) {r : Int × hH} (hr : fX10_scan h a0 a1 a2 a3 = some r) (hk : K r) : Wq p l e R s m args below meth c D G A H0 true n0 M_X10_scan x 0 0 0 [(0, (20, a0)), (1, (14, a1)), (2, (13, a2)), (3, (2, a3))] [] h := by
  unfold fX10_scan at hr
  refine r_aload_n dX10_scan_0 rfl 0 rfl (nl rfl) ?_
  refine r_iconst dX10_scan_1 (by decide) ?_
  obtain ⟨h2, hg2, hr⟩ := bnd hr
  refine r_put' 10 0 (t := 0) (ref := "FollowingRefs$Violations") hg2 rfl tyX10 tyX10_ok nmX10 rfl (by decide) rfl (by decide) inlX10 (wsl_32 _ (List.mem_of_getElem? (i := 15) rfl)) rfl rfl (by decide +kernel) (by decide) rfl (Or.inl ⟨rfl, rfl⟩) dX10_scan_2 ?_
  refine r_iconst dX10_scan_5 (by decide) ?_
  refine r_istore dX10_scan_6 (Or.inl rfl) (by decide) (lv' := [(4, (0, 0)), (0, (20, a0)), (1, (14, a1)), (2, (13, a2)), (3, (2, a3))]) rfl ?_
  refine r_sub [1, 2, 3, 4, 0] (lv' := [(0, (20, a0)), (1, (14, a1)), (2, (13, a2)), (3, (2, a3)), (4, (0, 0))]) rfl ?_
  exact lp_ok (w := fun (q : hH × Int) => Wq p l e R s m args below meth c D G A H0 true n0 M_X10_scan x 0 0 8 [(0, (20, a0)), (1, (14, a1)), (2, (13, a2)), (3, (2, a3)), (4, (0, q.2))] [] (q.1)) (K := K) (fun ⟨q0, q1⟩ r h1 h2 => oX10_scan_s8 (K := Sum.elim (fun (q : hH × Int) => Wq p l e R s m args below meth c D G A H0 true n0 M_X10_scan x 0 0 8 [(0, (20, a0)), (1, (14, a1)), (2, (13, a2)), (3, (2, a3)), (4, (0, q.2))] [] (q.1)) (K)) (fun r z => k0 r z) (fun _ _ z => z) h1 h2) hr hk
end M_X10_scan
theorem oX10_scan {l : Launch} {D : va_G} {G : gG} {h : hH} {a0 a1 a2 a3 : Int} {r : Int × hH} (hr : fX10_scan h a0 a1 a2 a3 = some r) : Ctr l D G true yX10_scan M_X10_scan [(20, a0), (14, a1), (13, a2), (2, a3)] h (some (0, r.1), r.2) :=
  Ctr_of (by decide) rfl (fun z => by cases z) (nl rfl) (fun {p e R s m args below meth c A H0} => by
    exact oX10_scan_b0 (K := fun z9 => z9 = r) (fun r9 z => by rw [z]) hr rfl)
/-! X10_tell -/
theorem dX10_tell_0 : decode cX10_tell 0 = .ok (.iload_n 1, 1) := by decide +kernel
theorem dX10_tell_1 : decode cX10_tell 1 = .ok (.ifCond .lt 20, 3) := by decide +kernel
theorem dX10_tell_4 : decode cX10_tell 4 = .ok (.iload_n 1, 1) := by decide +kernel
theorem dX10_tell_5 : decode cX10_tell 5 = .ok (.aload_n 0, 1) := by decide +kernel
theorem dX10_tell_6 : decode cX10_tell 6 = .ok (.getfield 15, 3) := by decide +kernel
theorem dX10_tell_9 : decode cX10_tell 9 = .ok (.if_icmp .ge 12, 3) := by decide +kernel
theorem dX10_tell_12 : decode cX10_tell 12 = .ok (.iload_n 2, 1) := by decide +kernel
theorem dX10_tell_13 : decode cX10_tell 13 = .ok (.ifCond .lt 8, 3) := by decide +kernel
theorem dX10_tell_16 : decode cX10_tell 16 = .ok (.iload_n 2, 1) := by decide +kernel
theorem dX10_tell_17 : decode cX10_tell 17 = .ok (.iconst 2, 1) := by decide +kernel
theorem dX10_tell_18 : decode cX10_tell 18 = .ok (.if_icmp .le 5, 3) := by decide +kernel
theorem dX10_tell_21 : decode cX10_tell 21 = .ok (.iconst (-1), 1) := by decide +kernel
theorem dX10_tell_22 : decode cX10_tell 22 = .ok (.ireturn, 1) := by decide +kernel
theorem dX10_tell_23 : decode cX10_tell 23 = .ok (.aload_n 0, 1) := by decide +kernel
theorem dX10_tell_24 : decode cX10_tell 24 = .ok (.getfield 9, 3) := by decide +kernel
theorem dX10_tell_27 : decode cX10_tell 27 = .ok (.iload_n 1, 1) := by decide +kernel
theorem dX10_tell_28 : decode cX10_tell 28 = .ok (.invokestatic 97, 3) := by decide +kernel
theorem dX10_tell_31 : decode cX10_tell 31 = .ok (.istore_n 3, 1) := by decide +kernel
theorem dX10_tell_32 : decode cX10_tell 32 = .ok (.iload_n 2, 1) := by decide +kernel
theorem dX10_tell_33 : decode cX10_tell 33 = .ok (.ifCond .ne 10, 3) := by decide +kernel
theorem dX10_tell_36 : decode cX10_tell 36 = .ok (.iload_n 3, 1) := by decide +kernel
theorem dX10_tell_37 : decode cX10_tell 37 = .ok (.bipush 16, 2) := by decide +kernel
theorem dX10_tell_39 : decode cX10_tell 39 = .ok (.iushr, 1) := by decide +kernel
theorem dX10_tell_40 : decode cX10_tell 40 = .ok (.goto 24, 3) := by decide +kernel
theorem dX10_tell_43 : decode cX10_tell 43 = .ok (.iload_n 2, 1) := by decide +kernel
theorem dX10_tell_44 : decode cX10_tell 44 = .ok (.iconst 1, 1) := by decide +kernel
theorem dX10_tell_45 : decode cX10_tell 45 = .ok (.if_icmp .ne 14, 3) := by decide +kernel
theorem dX10_tell_48 : decode cX10_tell 48 = .ok (.iload_n 3, 1) := by decide +kernel
theorem dX10_tell_49 : decode cX10_tell 49 = .ok (.bipush 8, 2) := by decide +kernel
theorem dX10_tell_51 : decode cX10_tell 51 = .ok (.iushr, 1) := by decide +kernel
theorem dX10_tell_52 : decode cX10_tell 52 = .ok (.sipush 255, 3) := by decide +kernel
theorem dX10_tell_55 : decode cX10_tell 55 = .ok (.iand, 1) := by decide +kernel
theorem dX10_tell_56 : decode cX10_tell 56 = .ok (.goto 8, 3) := by decide +kernel
theorem dX10_tell_59 : decode cX10_tell 59 = .ok (.iload_n 3, 1) := by decide +kernel
theorem dX10_tell_60 : decode cX10_tell 60 = .ok (.sipush 255, 3) := by decide +kernel
theorem dX10_tell_63 : decode cX10_tell 63 = .ok (.iand, 1) := by decide +kernel
theorem dX10_tell_64 : decode cX10_tell 64 = .ok (.ireturn, 1) := by decide +kernel
abbrev M_X10_tell : mM := (cX10_tell, 4, RX10, some .int, false, 1, 21, 0, 0)
theorem gX10_tell : cI yX10_tell M_X10_tell 2 := ⟨(wsl_39 _ (List.mem_of_getElem? (i := 14) rfl)), (wsl_39 _ (List.mem_of_getElem? (i := 15) rfl)), (wsl_6 _ (List.mem_of_getElem? (i := 0) rfl)), (wsl_39 _ (List.mem_of_getElem? (i := 16) rfl)), by decide +kernel⟩
noncomputable def fX10_tell (h : hH) (a0 a1 a2 : Int) : Option (Int) :=
  if a1 < 0 then
    some (-1)
  else
    if a1 < h a0 0 then
      if a2 < 0 then
        some (-1)
      else
        if 2 < a2 then
          some (-1)
        else
          (fX11_at h (h a0 1) a1).bind fun r28 =>
          if a2 = 0 then
            some (iusD r28 16)
          else
            if a2 = 1 then
              some (iadD (iusD r28 8) 255)
            else
              some (iadD r28 255)
    else
      some (-1)
section M_X10_tell
variable {p : Program} {l : Launch} {e : Env} {R : Room} {s : State} {m : MethodId} {args : Array Value} {below : List Frame} {meth : Method} {c : Code} {D : va_G} {G : gG} {A : Nat → Prop} {H0 : Heap} {n0 : Int} {x : Option vV × hH} {h : hH}
set_option maxRecDepth 100000 in
set_option maxHeartbeats 4000000 in
theorem oX10_tell_b0 {a0 a1 a2 : Int} {K : Int → Prop} (k0 : ∀ r, K (r) → x = (some (0, r), h)) {r : Int} (hr : fX10_tell h a0 a1 a2 = some r) (hk : K r) : Wq p l e R s m args below meth c D G A H0 true n0 M_X10_tell x 0 0 0 [(0, (20, a0)), (1, (0, a1)), (2, (0, a2))] [] h := by
  unfold fX10_tell at hr
  refine r_iload_n dX10_tell_0 rfl 1 rfl (Or.inl rfl) ?_
  refine r_if_lt dX10_tell_1 (tgt := 21) (by decide) (fun hc => ?_) (fun hc => ?_)
  · have hr := ifp hr hc
    refine r_iconst dX10_tell_21 (by decide) ?_
    obtain rfl := Option.some.inj hr
    exact r_ret dX10_tell_22 rfl (Or.inl ⟨rfl, rfl⟩) (k0 _ hk) ⟨rfl, rfl⟩
  · have hr := ifn hr hc
    refine r_iload_n dX10_tell_4 rfl 1 rfl (Or.inl rfl) ?_
    refine r_aload_n dX10_tell_5 rfl 0 rfl (nl rfl) ?_
    refine r_get 10 0 (o := a0) (w := (0, h a0 0)) (T := TX10) (ref := "FollowingRefs$Violations") rfl (by decide) rfl (by decide) inlX10 (wsl_32 _ (List.mem_of_getElem? (i := 15) rfl)) rfl dX10_tell_6 rfl ?_
    refine r_icmp_ge dX10_tell_9 (tgt := 21) (by decide) (fun hc => ?_) (fun hc => ?_)
    · have hr := ifn hr hc
      refine r_iconst dX10_tell_21 (by decide) ?_
      obtain rfl := Option.some.inj hr
      exact r_ret dX10_tell_22 rfl (Or.inl ⟨rfl, rfl⟩) (k0 _ hk) ⟨rfl, rfl⟩
    · have hr := ifp hr hc
      refine r_iload_n dX10_tell_12 rfl 2 rfl (Or.inl rfl) ?_
      refine r_if_lt dX10_tell_13 (tgt := 21) (by decide) (fun hc => ?_) (fun hc => ?_)
      · have hr := ifp hr hc
        refine r_iconst dX10_tell_21 (by decide) ?_
        obtain rfl := Option.some.inj hr
        exact r_ret dX10_tell_22 rfl (Or.inl ⟨rfl, rfl⟩) (k0 _ hk) ⟨rfl, rfl⟩
      · have hr := ifn hr hc
        refine r_iload_n dX10_tell_16 rfl 2 rfl (Or.inl rfl) ?_
        refine r_iconst dX10_tell_17 (by decide) ?_
        refine r_icmp_le dX10_tell_18 (tgt := 23) (by decide) (fun hc => ?_) (fun hc => ?_)
        · have hr := ifn hr hc
          refine r_aload_n dX10_tell_23 rfl 0 rfl (nl rfl) ?_
          refine r_get 10 1 (o := a0) (w := (50, h a0 1)) (T := TX10) (ref := "FollowingRefs$Violations") rfl (by decide) rfl (by decide) inlX10 (wsl_6 _ (List.mem_of_getElem? (i := 13) rfl)) rfl dX10_tell_24 rfl ?_
          refine r_iload_n dX10_tell_27 rfl 1 rfl (Or.inl rfl) ?_
          obtain ⟨r28, hg28, hr⟩ := bnd hr
          refine k_SN (host := "FollowingRefs") (as := [(50, h a0 1), (0, a1)]) (rest := []) (X := (some (0, r28), h)) (oX11_at hg28) gX11_at rfl (List.mem_of_getElem? (i := 9) rfl) rfl dX10_tell_28 rfl ?_
          refine r_istore_n dX10_tell_31 rfl (Or.inl rfl) (by decide) (lv' := [(3, (0, r28)), (0, (20, a0)), (1, (0, a1)), (2, (0, a2))]) rfl ?_
          refine r_iload_n dX10_tell_32 rfl 3 rfl (Or.inl rfl) ?_
          refine r_if_ne dX10_tell_33 (tgt := 43) (by decide) (fun hc => ?_) (fun hc => ?_)
          · have hr := ifn hr hc
            refine r_iload_n dX10_tell_43 rfl 3 rfl (Or.inl rfl) ?_
            refine r_iconst dX10_tell_44 (by decide) ?_
            refine r_icmp_ne dX10_tell_45 (tgt := 59) (by decide) (fun hc => ?_) (fun hc => ?_)
            · have hr := ifn hr hc
              refine r_iload_n dX10_tell_59 rfl 0 rfl (Or.inl rfl) ?_
              refine r_sipush dX10_tell_60 (by decide) (by decide) ?_
              refine r_iand dX10_tell_63 ?_
              obtain rfl := Option.some.inj hr
              exact r_ret dX10_tell_64 rfl (Or.inl ⟨rfl, rfl⟩) (k0 _ hk) ⟨rfl, rfl⟩
            · have hr := ifp hr hc
              refine r_iload_n dX10_tell_48 rfl 0 rfl (Or.inl rfl) ?_
              refine r_bipush dX10_tell_49 (by decide) (by decide) ?_
              refine r_iushr dX10_tell_51 ?_
              refine r_sipush dX10_tell_52 (by decide) (by decide) ?_
              refine r_iand dX10_tell_55 ?_
              refine r_goto dX10_tell_56 (tgt := 64) (by decide) ?_
              obtain rfl := Option.some.inj hr
              exact r_ret dX10_tell_64 rfl (Or.inl ⟨rfl, rfl⟩) (k0 _ hk) ⟨rfl, rfl⟩
          · have hr := ifp hr hc
            refine r_iload_n dX10_tell_36 rfl 0 rfl (Or.inl rfl) ?_
            refine r_bipush dX10_tell_37 (by decide) (by decide) ?_
            refine r_iushr dX10_tell_39 ?_
            refine r_goto dX10_tell_40 (tgt := 64) (by decide) ?_
            obtain rfl := Option.some.inj hr
            exact r_ret dX10_tell_64 rfl (Or.inl ⟨rfl, rfl⟩) (k0 _ hk) ⟨rfl, rfl⟩
        · have hr := ifp hr hc
          refine r_iconst dX10_tell_21 (by decide) ?_
          obtain rfl := Option.some.inj hr
          exact r_ret dX10_tell_22 rfl (Or.inl ⟨rfl, rfl⟩) (k0 _ hk) ⟨rfl, rfl⟩
end M_X10_tell
theorem oX10_tell {l : Launch} {D : va_G} {G : gG} {h : hH} {a0 a1 a2 : Int} {r : Int} (hr : fX10_tell h a0 a1 a2 = some r) : Ctr l D G true yX10_tell M_X10_tell [(20, a0), (0, a1), (0, a2)] h (some (0, r), h) :=
  Ctr_of (by decide) rfl (fun z => by cases z) (nl rfl) (fun {p e R s m args below meth c A H0} => by
    exact oX10_tell_b0 (K := fun z9 => z9 = r) (fun r9 z => by rw [z]) hr rfl)
/-! X1_judge -/
theorem dX1_judge_0 : decode cX1_judge 0 = .ok (.aload_n 0, 1) := by decide +kernel
theorem dX1_judge_1 : decode cX1_judge 1 = .ok (.invokevirtual 52, 3) := by decide +kernel
theorem dX1_judge_4 : decode cX1_judge 4 = .ok (.aload_n 1, 1) := by decide +kernel
theorem dX1_judge_5 : decode cX1_judge 5 = .ok (.iload_n 2, 1) := by decide +kernel
theorem dX1_judge_6 : decode cX1_judge 6 = .ok (.iconst 0, 1) := by decide +kernel
theorem dX1_judge_7 : decode cX1_judge 7 = .ok (.invokevirtual 55, 3) := by decide +kernel
theorem dX1_judge_10 : decode cX1_judge 10 = .ok (.sipush 141, 3) := by decide +kernel
theorem dX1_judge_13 : decode cX1_judge 13 = .ok (.if_icmp .ne 25, 3) := by decide +kernel
theorem dX1_judge_16 : decode cX1_judge 16 = .ok (.aload_n 0, 1) := by decide +kernel
theorem dX1_judge_17 : decode cX1_judge 17 = .ok (.aload_n 0, 1) := by decide +kernel
theorem dX1_judge_18 : decode cX1_judge 18 = .ok (.aload_n 1, 1) := by decide +kernel
theorem dX1_judge_19 : decode cX1_judge 19 = .ok (.iload_n 2, 1) := by decide +kernel
theorem dX1_judge_20 : decode cX1_judge 20 = .ok (.invokevirtual 61, 3) := by decide +kernel
theorem dX1_judge_23 : decode cX1_judge 23 = .ok (.ifCond .eq 7, 3) := by decide +kernel
theorem dX1_judge_26 : decode cX1_judge 26 = .ok (.iconst 0, 1) := by decide +kernel
theorem dX1_judge_27 : decode cX1_judge 27 = .ok (.goto 5, 3) := by decide +kernel
theorem dX1_judge_30 : decode cX1_judge 30 = .ok (.bipush 6, 2) := by decide +kernel
theorem dX1_judge_32 : decode cX1_judge 32 = .ok (.putfield 65, 3) := by decide +kernel
theorem dX1_judge_35 : decode cX1_judge 35 = .ok (.goto 48, 3) := by decide +kernel
theorem dX1_judge_38 : decode cX1_judge 38 = .ok (.aload_n 0, 1) := by decide +kernel
theorem dX1_judge_39 : decode cX1_judge 39 = .ok (.invokevirtual 69, 3) := by decide +kernel
theorem dX1_judge_42 : decode cX1_judge 42 = .ok (.aload_n 0, 1) := by decide +kernel
theorem dX1_judge_43 : decode cX1_judge 43 = .ok (.aload_n 1, 1) := by decide +kernel
theorem dX1_judge_44 : decode cX1_judge 44 = .ok (.iload_n 2, 1) := by decide +kernel
theorem dX1_judge_45 : decode cX1_judge 45 = .ok (.invokevirtual 72, 3) := by decide +kernel
theorem dX1_judge_48 : decode cX1_judge 48 = .ok (.aload_n 0, 1) := by decide +kernel
theorem dX1_judge_49 : decode cX1_judge 49 = .ok (.invokevirtual 76, 3) := by decide +kernel
theorem dX1_judge_52 : decode cX1_judge 52 = .ok (.aload_n 0, 1) := by decide +kernel
theorem dX1_judge_53 : decode cX1_judge 53 = .ok (.invokevirtual 79, 3) := by decide +kernel
theorem dX1_judge_56 : decode cX1_judge 56 = .ok (.aload_n 0, 1) := by decide +kernel
theorem dX1_judge_57 : decode cX1_judge 57 = .ok (.aload_n 0, 1) := by decide +kernel
theorem dX1_judge_58 : decode cX1_judge 58 = .ok (.invokevirtual 82, 3) := by decide +kernel
theorem dX1_judge_61 : decode cX1_judge 61 = .ok (.ifCond .eq 7, 3) := by decide +kernel
theorem dX1_judge_64 : decode cX1_judge 64 = .ok (.iconst 0, 1) := by decide +kernel
theorem dX1_judge_65 : decode cX1_judge 65 = .ok (.goto 4, 3) := by decide +kernel
theorem dX1_judge_68 : decode cX1_judge 68 = .ok (.iconst 5, 1) := by decide +kernel
theorem dX1_judge_69 : decode cX1_judge 69 = .ok (.putfield 65, 3) := by decide +kernel
theorem dX1_judge_72 : decode cX1_judge 72 = .ok (.aload_n 0, 1) := by decide +kernel
theorem dX1_judge_73 : decode cX1_judge 73 = .ok (.getfield 65, 3) := by decide +kernel
theorem dX1_judge_76 : decode cX1_judge 76 = .ok (.ifCond .ne 7, 3) := by decide +kernel
theorem dX1_judge_79 : decode cX1_judge 79 = .ok (.aload_n 0, 1) := by decide +kernel
theorem dX1_judge_80 : decode cX1_judge 80 = .ok (.invokevirtual 86, 3) := by decide +kernel
theorem dX1_judge_83 : decode cX1_judge 83 = .ok (.aload_n 0, 1) := by decide +kernel
theorem dX1_judge_84 : decode cX1_judge 84 = .ok (.getfield 65, 3) := by decide +kernel
theorem dX1_judge_87 : decode cX1_judge 87 = .ok (.ifCond .ne 49, 3) := by decide +kernel
theorem dX1_judge_90 : decode cX1_judge 90 = .ok (.aload_n 0, 1) := by decide +kernel
theorem dX1_judge_91 : decode cX1_judge 91 = .ok (.getfield 21, 3) := by decide +kernel
theorem dX1_judge_94 : decode cX1_judge 94 = .ok (.aload_n 0, 1) := by decide +kernel
theorem dX1_judge_95 : decode cX1_judge 95 = .ok (.getfield 44, 3) := by decide +kernel
theorem dX1_judge_98 : decode cX1_judge 98 = .ok (.aload_n 0, 1) := by decide +kernel
theorem dX1_judge_99 : decode cX1_judge 99 = .ok (.getfield 12, 3) := by decide +kernel
theorem dX1_judge_102 : decode cX1_judge 102 = .ok (.aload_n 0, 1) := by decide +kernel
theorem dX1_judge_103 : decode cX1_judge 103 = .ok (.getfield 48, 3) := by decide +kernel
theorem dX1_judge_106 : decode cX1_judge 106 = .ok (.getfield 89, 3) := by decide +kernel
theorem dX1_judge_109 : decode cX1_judge 109 = .ok (.ifCond .ne 7, 3) := by decide +kernel
theorem dX1_judge_112 : decode cX1_judge 112 = .ok (.iconst 1, 1) := by decide +kernel
theorem dX1_judge_113 : decode cX1_judge 113 = .ok (.goto 4, 3) := by decide +kernel
theorem dX1_judge_116 : decode cX1_judge 116 = .ok (.iconst 0, 1) := by decide +kernel
theorem dX1_judge_117 : decode cX1_judge 117 = .ok (.invokevirtual 95, 3) := by decide +kernel
theorem dX1_judge_120 : decode cX1_judge 120 = .ok (.ifCond .le 16, 3) := by decide +kernel
theorem dX1_judge_123 : decode cX1_judge 123 = .ok (.aload_n 0, 1) := by decide +kernel
theorem dX1_judge_124 : decode cX1_judge 124 = .ok (.aload_n 0, 1) := by decide +kernel
theorem dX1_judge_125 : decode cX1_judge 125 = .ok (.getfield 21, 3) := by decide +kernel
theorem dX1_judge_128 : decode cX1_judge 128 = .ok (.iconst 0, 1) := by decide +kernel
theorem dX1_judge_129 : decode cX1_judge 129 = .ok (.iconst 0, 1) := by decide +kernel
theorem dX1_judge_130 : decode cX1_judge 130 = .ok (.invokevirtual 99, 3) := by decide +kernel
theorem dX1_judge_133 : decode cX1_judge 133 = .ok (.putfield 65, 3) := by decide +kernel
theorem dX1_judge_136 : decode cX1_judge 136 = .ok (.aload_n 0, 1) := by decide +kernel
theorem dX1_judge_137 : decode cX1_judge 137 = .ok (.getfield 65, 3) := by decide +kernel
theorem dX1_judge_140 : decode cX1_judge 140 = .ok (.ireturn, 1) := by decide +kernel
abbrev M_X1_judge : mM := (cX1_judge, 3, RX1, some .int, false, 5, 148, 0, 0)
theorem gX1_judge : cI yX1_judge M_X1_judge 2 := ⟨(wsl_31 _ (List.mem_of_getElem? (i := 21) rfl)), (wsl_31 _ (List.mem_of_getElem? (i := 22) rfl)), (wsl_2 _ (List.mem_of_getElem? (i := 19) rfl)), (wsl_31 _ (List.mem_of_getElem? (i := 23) rfl)), by decide +kernel⟩
noncomputable def fX1_judge_b136 (h : hH) (a0 : Int) : Option (Int × hH) :=
  some (h a0 5, h)
noncomputable def fX1_judge_b117 (h : hH) (a0 s0 s1 s2 s3 : Int) : Option (Int × hH) :=
  (fX10_scan h s3 s2 s1 s0).bind fun q117 =>
  if 0 < q117.1 then
    (fX10_tell q117.2 (q117.2 a0 3) 0 0).bind fun r130 =>
    (pput q117.2 a0 5 r130).bind fun h133 =>
    fX1_judge_b136 h133 a0
  else
    fX1_judge_b136 q117.2 a0
noncomputable def fX1_judge_b83 (h : hH) (a0 : Int) : Option (Int × hH) :=
  if h a0 5 = 0 then
    if h (h a0 1) 2 = 0 then
      fX1_judge_b117 h a0 1 (h a0 2) (h a0 0) (h a0 3)
    else
      fX1_judge_b117 h a0 0 (h a0 2) (h a0 0) (h a0 3)
  else
    fX1_judge_b136 h a0
noncomputable def fX1_judge_b32 (h : hH) (a0 s0 s1 : Int) : Option (Int × hH) :=
  (pput h s1 5 s0).bind fun h32 =>
  fX1_judge_b83 h32 a0
noncomputable def fX1_judge_b69 (h : hH) (a0 s0 s1 : Int) : Option (Int × hH) :=
  (pput h s1 5 s0).bind fun h69 =>
  if h69 a0 5 = 0 then
    (fX1_build h69 a0).bind fun h80 =>
    fX1_judge_b83 h80 a0
  else
    fX1_judge_b83 h69 a0
noncomputable def fX1_judge (h : hH) (a0 a1 a2 : Int) : Option (Int × hH) :=
  (fX1_reset h a0).bind fun h1 =>
  (fX2_part h1 a1 a2 0).bind fun r7 =>
  if r7 = 141 then
    (fX1_insert h1 a0 a1 a2).bind fun q20 =>
    if q20.1 = 0 then
      fX1_judge_b32 q20.2 a0 6 a0
    else
      fX1_judge_b32 q20.2 a0 0 a0
  else
    (fX1_findAims h1 a0).bind fun h39 =>
    (fX1_findRows h39 a0 a1 a2).bind fun h45 =>
    (fX1_spreadGoing h45 a0).bind fun h49 =>
    (fX1_listGoing h49 a0).bind fun h53 =>
    (fX1_spreadValues h53 a0).bind fun q58 =>
    if q58.1 = 0 then
      fX1_judge_b69 q58.2 a0 5 a0
    else
      fX1_judge_b69 q58.2 a0 0 a0
section M_X1_judge
variable {p : Program} {l : Launch} {e : Env} {R : Room} {s : State} {m : MethodId} {args : Array Value} {below : List Frame} {meth : Method} {c : Code} {D : va_G} {G : gG} {A : Nat → Prop} {H0 : Heap} {n0 : Int} {x : Option vV × hH} {h : hH}
set_option maxRecDepth 100000 in
set_option maxHeartbeats 4000000 in
theorem oX1_judge_b136 {a0 : Int} {K : Int × hH → Prop} (k0 : ∀ r, K (r) → x = (some (0, r.1), r.2)) {r : Int × hH} (hr : fX1_judge_b136 h a0 = some r) (hk : K r) : Wq p l e R s m args below meth c D G A H0 true n0 M_X1_judge x 0 0 136 [(0, (11, a0))] [] h := by
  unfold fX1_judge_b136 at hr
  refine r_aload_n dX1_judge_136 rfl 0 rfl (nl rfl) ?_
  refine r_get 1 5 (o := a0) (w := (0, h a0 5)) (T := TX1) (ref := "FollowingRefs$Judge") rfl (by decide) rfl (by decide) inlX1 (wsl_32 _ (List.mem_of_getElem? (i := 0) rfl)) rfl dX1_judge_137 rfl ?_
  obtain rfl := Option.some.inj hr
  exact r_ret dX1_judge_140 rfl (Or.inl ⟨rfl, rfl⟩) (k0 _ hk) ⟨rfl, rfl⟩
set_option maxRecDepth 100000 in
set_option maxHeartbeats 4000000 in
theorem oX1_judge_b117 {a0 s0 s1 s2 s3 : Int} {K : Int × hH → Prop} (k0 : ∀ r, K (r) → x = (some (0, r.1), r.2)) {r : Int × hH} (hr : fX1_judge_b117 h a0 s0 s1 s2 s3 = some r) (hk : K r) : Wq p l e R s m args below meth c D G A H0 true n0 M_X1_judge x 0 0 117 [(0, (11, a0))] [(2, s0), (13, s1), (14, s2), (20, s3)] h := by
  unfold fX1_judge_b117 at hr
  obtain ⟨q117, hg117, hr⟩ := bnd hr
  refine k_V (ci := 10) (o := s3) (T := TX10) (as := [(14, s2), (13, s1), (2, s0)]) (rest := []) (X := (some (0, q117.1), q117.2)) (oX10_scan hg117) gX10_scan rfl (by decide) rfl (wsl_37 _ (List.mem_of_getElem? (i := 9) rfl)) rfl dX1_judge_117 rfl ?_
  refine r_if_le dX1_judge_120 (tgt := 136) (by decide) (fun hc => ?_) (fun hc => ?_)
  · have hr := ifn hr hc
    exact oX1_judge_b136 (K := K) (fun r z => k0 r z) hr hk
  · have hr := ifp hr hc
    refine r_aload_n dX1_judge_123 rfl 0 rfl (nl rfl) ?_
    refine r_aload_n dX1_judge_124 rfl 0 rfl (nl rfl) ?_
    refine r_get 1 3 (o := a0) (w := (20, q117.2 a0 3)) (T := TX1) (ref := "FollowingRefs$Judge") rfl (by decide) rfl (by decide) inlX1 (wsl_6 _ (List.mem_of_getElem? (i := 1) rfl)) rfl dX1_judge_125 rfl ?_
    refine r_iconst dX1_judge_128 (by decide) ?_
    refine r_iconst dX1_judge_129 (by decide) ?_
    obtain ⟨r130, hg130, hr⟩ := bnd hr
    refine k_V (ci := 10) (o := q117.2 a0 3) (T := TX10) (as := [(0, 0), (0, 0)]) (rest := [(11, a0)]) (X := (some (0, r130), q117.2)) (oX10_tell hg130) gX10_tell rfl (by decide) rfl (wsl_39 _ (List.mem_of_getElem? (i := 13) rfl)) rfl dX1_judge_130 rfl ?_
    obtain ⟨h133, hg133, hr⟩ := bnd hr
    refine r_put' 1 5 (t := 0) (ref := "FollowingRefs$Judge") hg133 rfl tyX1 tyX1_ok nmX1 rfl (by decide) rfl (by decide) inlX1 (wsl_32 _ (List.mem_of_getElem? (i := 0) rfl)) rfl rfl (by decide +kernel) (by decide) rfl (Or.inl ⟨rfl, rfl⟩) dX1_judge_133 ?_
    exact oX1_judge_b136 (K := K) (fun r z => k0 r z) hr hk
set_option maxRecDepth 100000 in
set_option maxHeartbeats 4000000 in
theorem oX1_judge_b83 {a0 : Int} {K : Int × hH → Prop} (k0 : ∀ r, K (r) → x = (some (0, r.1), r.2)) {r : Int × hH} (hr : fX1_judge_b83 h a0 = some r) (hk : K r) : Wq p l e R s m args below meth c D G A H0 true n0 M_X1_judge x 0 0 83 [(0, (11, a0))] [] h := by
  unfold fX1_judge_b83 at hr
  refine r_aload_n dX1_judge_83 rfl 0 rfl (nl rfl) ?_
  refine r_get 1 5 (o := a0) (w := (0, h a0 5)) (T := TX1) (ref := "FollowingRefs$Judge") rfl (by decide) rfl (by decide) inlX1 (wsl_32 _ (List.mem_of_getElem? (i := 0) rfl)) rfl dX1_judge_84 rfl ?_
  refine r_if_ne dX1_judge_87 (tgt := 136) (by decide) (fun hc => ?_) (fun hc => ?_)
  · have hr := ifn hr hc
    exact oX1_judge_b136 (K := K) (fun r z => k0 r z) hr hk
  · have hr := ifp hr hc
    refine r_aload_n dX1_judge_90 rfl 0 rfl (nl rfl) ?_
    refine r_get 1 3 (o := a0) (w := (20, h a0 3)) (T := TX1) (ref := "FollowingRefs$Judge") rfl (by decide) rfl (by decide) inlX1 (wsl_6 _ (List.mem_of_getElem? (i := 1) rfl)) rfl dX1_judge_91 rfl ?_
    refine r_aload_n dX1_judge_94 rfl 0 rfl (nl rfl) ?_
    refine r_get 1 0 (o := a0) (w := (14, h a0 0)) (T := TX1) (ref := "FollowingRefs$Judge") rfl (by decide) rfl (by decide) inlX1 (wsl_6 _ (List.mem_of_getElem? (i := 8) rfl)) rfl dX1_judge_95 rfl ?_
    refine r_aload_n dX1_judge_98 rfl 0 rfl (nl rfl) ?_
    refine r_get 1 2 (o := a0) (w := (13, h a0 2)) (T := TX1) (ref := "FollowingRefs$Judge") rfl (by decide) rfl (by decide) inlX1 (wsl_5 _ (List.mem_of_getElem? (i := 21) rfl)) rfl dX1_judge_99 rfl ?_
    refine r_aload_n dX1_judge_102 rfl 0 rfl (nl rfl) ?_
    refine r_get 1 1 (o := a0) (w := (18, h a0 1)) (T := TX1) (ref := "FollowingRefs$Judge") rfl (by decide) rfl (by decide) inlX1 (wsl_6 _ (List.mem_of_getElem? (i := 9) rfl)) rfl dX1_judge_103 rfl ?_
    refine r_get 8 2 (o := h a0 1) (w := (2, h (h a0 1) 2)) (T := TX8) (ref := "FollowingRefs$State") rfl (by decide) rfl (by decide) inlX8 (wsl_32 _ (List.mem_of_getElem? (i := 1) rfl)) rfl dX1_judge_106 rfl ?_
    refine r_scast 0 (v := (2, h (h a0 1) 2)) (w := (0, h (h a0 1) 2)) rfl zc hTz (st' := [(0, h (h a0 1) 2), (13, h a0 2), (14, h a0 0), (20, h a0 3)]) rfl ?_
    refine r_if_ne dX1_judge_109 (tgt := 116) (by decide) (fun hc => ?_) (fun hc => ?_)
    · have hr := ifn hr hc
      refine r_iconst dX1_judge_116 (by decide) ?_
      refine r_scast 0 (v := (0, 0)) (w := (2, 0)) rfl cz (fun _ => Or.inl rfl) (st' := [(2, 0), (13, h a0 2), (14, h a0 0), (20, h a0 3)]) rfl ?_
      exact oX1_judge_b117 (K := K) (fun r z => k0 r z) hr hk
    · have hr := ifp hr hc
      refine r_iconst dX1_judge_112 (by decide) ?_
      refine r_goto dX1_judge_113 (tgt := 117) (by decide) ?_
      refine r_scast 0 (v := (0, 1)) (w := (2, 1)) rfl cz (fun _ => Or.inr rfl) (st' := [(2, 1), (13, h a0 2), (14, h a0 0), (20, h a0 3)]) rfl ?_
      exact oX1_judge_b117 (K := K) (fun r z => k0 r z) hr hk
set_option maxRecDepth 100000 in
set_option maxHeartbeats 4000000 in
theorem oX1_judge_b32 {a0 s0 s1 : Int} {K : Int × hH → Prop} (k0 : ∀ r, K (r) → x = (some (0, r.1), r.2)) {r : Int × hH} (hr : fX1_judge_b32 h a0 s0 s1 = some r) (hk : K r) : Wq p l e R s m args below meth c D G A H0 true n0 M_X1_judge x 0 0 32 [(0, (11, a0))] [(0, s0), (11, s1)] h := by
  unfold fX1_judge_b32 at hr
  obtain ⟨h32, hg32, hr⟩ := bnd hr
  refine r_put' 1 5 (t := 0) (ref := "FollowingRefs$Judge") hg32 rfl tyX1 tyX1_ok nmX1 rfl (by decide) rfl (by decide) inlX1 (wsl_32 _ (List.mem_of_getElem? (i := 0) rfl)) rfl rfl (by decide +kernel) (by decide) rfl (Or.inl ⟨rfl, rfl⟩) dX1_judge_32 ?_
  refine r_goto dX1_judge_35 (tgt := 83) (by decide) ?_
  exact oX1_judge_b83 (K := K) (fun r z => k0 r z) hr hk
set_option maxRecDepth 100000 in
set_option maxHeartbeats 4000000 in
theorem oX1_judge_b69 {a0 s0 s1 : Int} {K : Int × hH → Prop} (k0 : ∀ r, K (r) → x = (some (0, r.1), r.2)) {r : Int × hH} (hr : fX1_judge_b69 h a0 s0 s1 = some r) (hk : K r) : Wq p l e R s m args below meth c D G A H0 true n0 M_X1_judge x 0 0 69 [(0, (11, a0))] [(0, s0), (11, s1)] h := by
  unfold fX1_judge_b69 at hr
  obtain ⟨h69, hg69, hr⟩ := bnd hr
  refine r_put' 1 5 (t := 0) (ref := "FollowingRefs$Judge") hg69 rfl tyX1 tyX1_ok nmX1 rfl (by decide) rfl (by decide) inlX1 (wsl_32 _ (List.mem_of_getElem? (i := 0) rfl)) rfl rfl (by decide +kernel) (by decide) rfl (Or.inl ⟨rfl, rfl⟩) dX1_judge_69 ?_
  refine r_aload_n dX1_judge_72 rfl 0 rfl (nl rfl) ?_
  refine r_get 1 5 (o := a0) (w := (0, h69 a0 5)) (T := TX1) (ref := "FollowingRefs$Judge") rfl (by decide) rfl (by decide) inlX1 (wsl_32 _ (List.mem_of_getElem? (i := 0) rfl)) rfl dX1_judge_73 rfl ?_
  refine r_if_ne dX1_judge_76 (tgt := 83) (by decide) (fun hc => ?_) (fun hc => ?_)
  · have hr := ifn hr hc
    exact oX1_judge_b83 (K := K) (fun r z => k0 r z) hr hk
  · have hr := ifp hr hc
    refine r_aload_n dX1_judge_79 rfl 0 rfl (nl rfl) ?_
    obtain ⟨h80, hg80, hr⟩ := bnd hr
    refine k_V (ci := 1) (o := a0) (T := TX1) (as := []) (rest := []) (X := (none, h80)) (oX1_build hg80) gX1_build rfl (by decide) rfl (wsl_36 _ (List.mem_of_getElem? (i := 20) rfl)) rfl dX1_judge_80 rfl ?_
    exact oX1_judge_b83 (K := K) (fun r z => k0 r z) hr hk
set_option maxRecDepth 100000 in
set_option maxHeartbeats 4000000 in
theorem oX1_judge_b0 {a0 a1 a2 : Int} {K : Int × hH → Prop} (k0 : ∀ r, K (r) → x = (some (0, r.1), r.2)) {r : Int × hH} (hr : fX1_judge h a0 a1 a2 = some r) (hk : K r) : Wq p l e R s m args below meth c D G A H0 true n0 M_X1_judge x 0 0 0 [(0, (11, a0)), (1, (12, a1)), (2, (0, a2))] [] h := by
  unfold fX1_judge at hr
  refine r_aload_n dX1_judge_0 rfl 0 rfl (nl rfl) ?_
  obtain ⟨h1, hg1, hr⟩ := bnd hr
  refine k_V (ci := 1) (o := a0) (T := TX1) (as := []) (rest := []) (X := (none, h1)) (oX1_reset hg1) gX1_reset rfl (by decide) rfl (wsl_32 _ (List.mem_of_getElem? (i := 2) rfl)) rfl dX1_judge_1 rfl ?_
  refine r_aload_n dX1_judge_4 rfl 1 rfl (nl rfl) ?_
  refine r_iload_n dX1_judge_5 rfl 2 rfl (Or.inl rfl) ?_
  refine r_iconst dX1_judge_6 (by decide) ?_
  obtain ⟨r7, hg7, hr⟩ := bnd hr
  refine k_V (ci := 2) (o := a1) (T := TX2) (as := [(0, a2), (0, 0)]) (rest := []) (X := (some (0, r7), h1)) (oX2_part hg7) gX2_part rfl (by decide) rfl (wsl_32 _ (List.mem_of_getElem? (i := 17) rfl)) rfl dX1_judge_7 rfl ?_
  refine r_sipush dX1_judge_10 (by decide) (by decide) ?_
  refine r_icmp_ne dX1_judge_13 (tgt := 38) (by decide) (fun hc => ?_) (fun hc => ?_)
  · have hr := ifn hr hc
    refine r_aload_n dX1_judge_38 rfl 0 rfl (nl rfl) ?_
    obtain ⟨h39, hg39, hr⟩ := bnd hr
    refine k_V (ci := 1) (o := a0) (T := TX1) (as := []) (rest := []) (X := (none, h39)) (oX1_findAims hg39) gX1_findAims rfl (by decide) rfl (wsl_33 _ (List.mem_of_getElem? (i := 16) rfl)) rfl dX1_judge_39 rfl ?_
    refine r_aload_n dX1_judge_42 rfl 0 rfl (nl rfl) ?_
    refine r_aload_n dX1_judge_43 rfl 1 rfl (nl rfl) ?_
    refine r_iload_n dX1_judge_44 rfl 2 rfl (Or.inl rfl) ?_
    obtain ⟨h45, hg45, hr⟩ := bnd hr
    refine k_V (ci := 1) (o := a0) (T := TX1) (as := [(12, a1), (0, a2)]) (rest := []) (X := (none, h45)) (oX1_findRows hg45) gX1_findRows rfl (by decide) rfl (wsl_34 _ (List.mem_of_getElem? (i := 15) rfl)) rfl dX1_judge_45 rfl ?_
    refine r_aload_n dX1_judge_48 rfl 0 rfl (nl rfl) ?_
    obtain ⟨h49, hg49, hr⟩ := bnd hr
    refine k_V (ci := 1) (o := a0) (T := TX1) (as := []) (rest := []) (X := (none, h49)) (oX1_spreadGoing hg49) gX1_spreadGoing rfl (by decide) rfl (wsl_35 _ (List.mem_of_getElem? (i := 8) rfl)) rfl dX1_judge_49 rfl ?_
    refine r_aload_n dX1_judge_52 rfl 0 rfl (nl rfl) ?_
    obtain ⟨h53, hg53, hr⟩ := bnd hr
    refine k_V (ci := 1) (o := a0) (T := TX1) (as := []) (rest := []) (X := (none, h53)) (oX1_listGoing hg53) gX1_listGoing rfl (by decide) rfl (wsl_35 _ (List.mem_of_getElem? (i := 17) rfl)) rfl dX1_judge_53 rfl ?_
    refine r_aload_n dX1_judge_56 rfl 0 rfl (nl rfl) ?_
    refine r_aload_n dX1_judge_57 rfl 0 rfl (nl rfl) ?_
    obtain ⟨q58, hg58, hr⟩ := bnd hr
    refine k_V (ci := 1) (o := a0) (T := TX1) (as := []) (rest := [(11, a0)]) (X := (some (2, q58.1), q58.2)) (oX1_spreadValues hg58) gX1_spreadValues rfl (by decide) rfl (wsl_36 _ (List.mem_of_getElem? (i := 1) rfl)) rfl dX1_judge_58 rfl ?_
    refine r_scast 0 (v := (2, q58.1)) (w := (0, q58.1)) rfl zc hTz (st' := [(0, q58.1), (11, a0)]) rfl ?_
    refine r_if_eq dX1_judge_61 (tgt := 68) (by decide) (fun hc => ?_) (fun hc => ?_)
    · have hr := ifp hr hc
      refine r_iconst dX1_judge_68 (by decide) ?_
      refine r_sub [0] (lv' := [(0, (11, a0))]) rfl ?_
      exact oX1_judge_b69 (K := K) (fun r z => k0 r z) hr hk
    · have hr := ifn hr hc
      refine r_iconst dX1_judge_64 (by decide) ?_
      refine r_goto dX1_judge_65 (tgt := 69) (by decide) ?_
      refine r_sub [0] (lv' := [(0, (11, a0))]) rfl ?_
      exact oX1_judge_b69 (K := K) (fun r z => k0 r z) hr hk
  · have hr := ifp hr hc
    refine r_aload_n dX1_judge_16 rfl 0 rfl (nl rfl) ?_
    refine r_aload_n dX1_judge_17 rfl 0 rfl (nl rfl) ?_
    refine r_aload_n dX1_judge_18 rfl 1 rfl (nl rfl) ?_
    refine r_iload_n dX1_judge_19 rfl 2 rfl (Or.inl rfl) ?_
    obtain ⟨q20, hg20, hr⟩ := bnd hr
    refine k_V (ci := 1) (o := a0) (T := TX1) (as := [(12, a1), (0, a2)]) (rest := [(11, a0)]) (X := (some (2, q20.1), q20.2)) (oX1_insert hg20) gX1_insert rfl (by decide) rfl (wsl_32 _ (List.mem_of_getElem? (i := 18) rfl)) rfl dX1_judge_20 rfl ?_
    refine r_scast 0 (v := (2, q20.1)) (w := (0, q20.1)) rfl zc hTz (st' := [(0, q20.1), (11, a0)]) rfl ?_
    refine r_if_eq dX1_judge_23 (tgt := 30) (by decide) (fun hc => ?_) (fun hc => ?_)
    · have hr := ifp hr hc
      refine r_bipush dX1_judge_30 (by decide) (by decide) ?_
      refine r_sub [0] (lv' := [(0, (11, a0))]) rfl ?_
      exact oX1_judge_b32 (K := K) (fun r z => k0 r z) hr hk
    · have hr := ifn hr hc
      refine r_iconst dX1_judge_26 (by decide) ?_
      refine r_goto dX1_judge_27 (tgt := 32) (by decide) ?_
      refine r_sub [0] (lv' := [(0, (11, a0))]) rfl ?_
      exact oX1_judge_b32 (K := K) (fun r z => k0 r z) hr hk
end M_X1_judge
theorem oX1_judge {l : Launch} {D : va_G} {G : gG} {h : hH} {a0 a1 a2 : Int} {r : Int × hH} (hr : fX1_judge h a0 a1 a2 = some r) : Ctr l D G true yX1_judge M_X1_judge [(11, a0), (12, a1), (0, a2)] h (some (0, r.1), r.2) :=
  Ctr_of (by decide) rfl (fun z => by cases z) (nl rfl) (fun {p e R s m args below meth c A H0} => by
    exact oX1_judge_b0 (K := fun z9 => z9 = r) (fun r9 z => by rw [z]) hr rfl)
/-! X2_setPart -/
theorem dX2_setPart_0 : decode cX2_setPart 0 = .ok (.aload_n 0, 1) := by decide +kernel
theorem dX2_setPart_1 : decode cX2_setPart 1 = .ok (.getfield 9, 3) := by decide +kernel
theorem dX2_setPart_4 : decode cX2_setPart 4 = .ok (.iload_n 1, 1) := by decide +kernel
theorem dX2_setPart_5 : decode cX2_setPart 5 = .ok (.bipush 19, 2) := by decide +kernel
theorem dX2_setPart_7 : decode cX2_setPart 7 = .ok (.imul, 1) := by decide +kernel
theorem dX2_setPart_8 : decode cX2_setPart 8 = .ok (.iload_n 2, 1) := by decide +kernel
theorem dX2_setPart_9 : decode cX2_setPart 9 = .ok (.iadd, 1) := by decide +kernel
theorem dX2_setPart_10 : decode cX2_setPart 10 = .ok (.iload_n 3, 1) := by decide +kernel
theorem dX2_setPart_11 : decode cX2_setPart 11 = .ok (.invokestatic 27, 3) := by decide +kernel
theorem dX2_setPart_14 : decode cX2_setPart 14 = .ok (.return_, 1) := by decide +kernel
abbrev M_X2_setPart : mM := (cX2_setPart, 4, RX2, none, false, 1, 22, 0, 0)
theorem gX2_setPart : cI yX2_setPart M_X2_setPart 3 := ⟨(wsl_30 _ (List.mem_of_getElem? (i := 10) rfl)), (wsl_30 _ (List.mem_of_getElem? (i := 11) rfl)), (wsl_2 _ (List.mem_of_getElem? (i := 15) rfl)), (wsl_30 _ (List.mem_of_getElem? (i := 12) rfl)), by decide +kernel⟩
noncomputable def fX2_setPart (h : hH) (a0 a1 a2 a3 : Int) : Option (hH) :=
  (fX11_put h (h a0 3) (w32 ((w32 (a1 * 19)) + a2)) a3).bind fun h11 =>
  some h11
section M_X2_setPart
variable {p : Program} {l : Launch} {e : Env} {R : Room} {s : State} {m : MethodId} {args : Array Value} {below : List Frame} {meth : Method} {c : Code} {D : va_G} {G : gG} {A : Nat → Prop} {H0 : Heap} {n0 : Int} {x : Option vV × hH} {h : hH}
set_option maxRecDepth 100000 in
set_option maxHeartbeats 4000000 in
theorem oX2_setPart_b0 {a0 a1 a2 a3 : Int} {K : hH → Prop} (k0 : ∀ r, K (r) → x = (none, r)) {r : hH} (hr : fX2_setPart h a0 a1 a2 a3 = some r) (hk : K r) : Wq p l e R s m args below meth c D G A H0 true n0 M_X2_setPart x 0 0 0 [(0, (12, a0)), (1, (0, a1)), (2, (0, a2)), (3, (0, a3))] [] h := by
  unfold fX2_setPart at hr
  refine r_aload_n dX2_setPart_0 rfl 0 rfl (nl rfl) ?_
  refine r_get 2 3 (o := a0) (w := (50, h a0 3)) (T := TX2) (ref := "FollowingRefs$Lines") rfl (by decide) rfl (by decide) inlX2 (wsl_5 _ (List.mem_of_getElem? (i := 13) rfl)) rfl dX2_setPart_1 rfl ?_
  refine r_iload_n dX2_setPart_4 rfl 1 rfl (Or.inl rfl) ?_
  refine r_bipush dX2_setPart_5 (by decide) (by decide) ?_
  refine r_imul dX2_setPart_7 ?_
  refine r_iload_n dX2_setPart_8 rfl 2 rfl (Or.inl rfl) ?_
  refine r_iadd dX2_setPart_9 ?_
  refine r_iload_n dX2_setPart_10 rfl 3 rfl (Or.inl rfl) ?_
  obtain ⟨h11, hg11, hr⟩ := bnd hr
  refine k_SN (host := "FollowingRefs") (as := [(50, h a0 3), (0, w32 ((w32 (a1 * 19)) + a2)), (0, a3)]) (rest := []) (X := (none, h11)) (oX11_put hg11) gX11_put rfl (List.mem_of_getElem? (i := 16) rfl) rfl dX2_setPart_11 rfl ?_
  obtain rfl := Option.some.inj hr
  exact r_vret dX2_setPart_14 rfl (k0 _ hk) ⟨rfl, rfl⟩
end M_X2_setPart
theorem oX2_setPart {l : Launch} {D : va_G} {G : gG} {h : hH} {a0 a1 a2 a3 : Int} {r : hH} (hr : fX2_setPart h a0 a1 a2 a3 = some r) : Ctr l D G true yX2_setPart M_X2_setPart [(12, a0), (0, a1), (0, a2), (0, a3)] h (none, r) :=
  Ctr_of (by decide) rfl (fun z => by cases z) (nl rfl) (fun {p e R s m args below meth c A H0} => by
    exact oX2_setPart_b0 (K := fun z9 => z9 = r) (fun r9 z => by rw [z]) hr rfl)
/-! X2_startLine -/
theorem dX2_startLine_0 : decode cX2_startLine 0 = .ok (.aload_n 0, 1) := by decide +kernel
theorem dX2_startLine_1 : decode cX2_startLine 1 = .ok (.iload_n 1, 1) := by decide +kernel
theorem dX2_startLine_2 : decode cX2_startLine 2 = .ok (.iconst 0, 1) := by decide +kernel
theorem dX2_startLine_3 : decode cX2_startLine 3 = .ok (.iload_n 2, 1) := by decide +kernel
theorem dX2_startLine_4 : decode cX2_startLine 4 = .ok (.invokevirtual 31, 3) := by decide +kernel
theorem dX2_startLine_7 : decode cX2_startLine 7 = .ok (.aload_n 0, 1) := by decide +kernel
theorem dX2_startLine_8 : decode cX2_startLine 8 = .ok (.iload_n 1, 1) := by decide +kernel
theorem dX2_startLine_9 : decode cX2_startLine 9 = .ok (.iconst 1, 1) := by decide +kernel
theorem dX2_startLine_10 : decode cX2_startLine 10 = .ok (.iload_n 3, 1) := by decide +kernel
theorem dX2_startLine_11 : decode cX2_startLine 11 = .ok (.invokevirtual 31, 3) := by decide +kernel
theorem dX2_startLine_14 : decode cX2_startLine 14 = .ok (.aload_n 0, 1) := by decide +kernel
theorem dX2_startLine_15 : decode cX2_startLine 15 = .ok (.iload_n 1, 1) := by decide +kernel
theorem dX2_startLine_16 : decode cX2_startLine 16 = .ok (.iconst 2, 1) := by decide +kernel
theorem dX2_startLine_17 : decode cX2_startLine 17 = .ok (.iconst 0, 1) := by decide +kernel
theorem dX2_startLine_18 : decode cX2_startLine 18 = .ok (.invokevirtual 31, 3) := by decide +kernel
theorem dX2_startLine_21 : decode cX2_startLine 21 = .ok (.iconst 3, 1) := by decide +kernel
theorem dX2_startLine_22 : decode cX2_startLine 22 = .ok (.istore 4, 2) := by decide +kernel
theorem dX2_startLine_24 : decode cX2_startLine 24 = .ok (.iload 4, 2) := by decide +kernel
theorem dX2_startLine_26 : decode cX2_startLine 26 = .ok (.bipush 7, 2) := by decide +kernel
theorem dX2_startLine_28 : decode cX2_startLine 28 = .ok (.if_icmp .ge 17, 3) := by decide +kernel
theorem dX2_startLine_31 : decode cX2_startLine 31 = .ok (.aload_n 0, 1) := by decide +kernel
theorem dX2_startLine_32 : decode cX2_startLine 32 = .ok (.iload_n 1, 1) := by decide +kernel
theorem dX2_startLine_33 : decode cX2_startLine 33 = .ok (.iload 4, 2) := by decide +kernel
theorem dX2_startLine_35 : decode cX2_startLine 35 = .ok (.iconst (-1), 1) := by decide +kernel
theorem dX2_startLine_36 : decode cX2_startLine 36 = .ok (.invokevirtual 31, 3) := by decide +kernel
theorem dX2_startLine_39 : decode cX2_startLine 39 = .ok (.iinc 4 1, 3) := by decide +kernel
theorem dX2_startLine_42 : decode cX2_startLine 42 = .ok (.goto (-18), 3) := by decide +kernel
theorem dX2_startLine_45 : decode cX2_startLine 45 = .ok (.return_, 1) := by decide +kernel
abbrev M_X2_startLine : mM := (cX2_startLine, 5, RX2, none, false, 2, 45, 0, 0)
theorem gX2_startLine : cI yX2_startLine M_X2_startLine 3 := ⟨(wsl_30 _ (List.mem_of_getElem? (i := 6) rfl)), (wsl_30 _ (List.mem_of_getElem? (i := 7) rfl)), (wsl_2 _ (List.mem_of_getElem? (i := 15) rfl)), (wsl_30 _ (List.mem_of_getElem? (i := 8) rfl)), by decide +kernel⟩
noncomputable def fX2_startLine_s24 (h0 : hH) (a0 a1 : Int) : hH × Int → Option ((hH × Int) ⊕ (hH)) := fun (h, l4) =>
  if l4 < 7 then
    (fX2_setPart h a0 a1 l4 (-1)).bind fun h36 =>
    some (.inl (h36, w32 (l4 + 1)))
  else
    some (.inr (h))
noncomputable def fX2_startLine (h : hH) (a0 a1 a2 a3 : Int) : Option (hH) :=
  (fX2_setPart h a0 a1 0 a2).bind fun h4 =>
  (fX2_setPart h4 a0 a1 1 a3).bind fun h11 =>
  (fX2_setPart h11 a0 a1 2 0).bind fun h18 =>
  lpO (fX2_startLine_s24 h18 a0 a1) (h18, 3)
section M_X2_startLine
variable {p : Program} {l : Launch} {e : Env} {R : Room} {s : State} {m : MethodId} {args : Array Value} {below : List Frame} {meth : Method} {c : Code} {D : va_G} {G : gG} {A : Nat → Prop} {H0 : Heap} {n0 : Int} {x : Option vV × hH} {h : hH}
set_option maxRecDepth 100000 in
set_option maxHeartbeats 4000000 in
theorem oX2_startLine_s24 {h0 : hH} {a0 a1 l4 : Int} {K : (hH × Int) ⊕ (hH) → Prop} (k0 : ∀ r, K (.inr (r)) → x = (none, r)) (k1 : ∀ (h : hH) (l4 : Int), K (.inl (h, l4)) → Wq p l e R s m args below meth c D G A H0 true n0 M_X2_startLine x 0 0 24 [(0, (12, a0)), (1, (0, a1)), (4, (0, l4))] [] h) {r : (hH × Int) ⊕ (hH)} (hr : fX2_startLine_s24 h0 a0 a1 (h, l4) = some r) (hk : K r) : Wq p l e R s m args below meth c D G A H0 true n0 M_X2_startLine x 0 0 24 [(0, (12, a0)), (1, (0, a1)), (4, (0, l4))] [] h := by
  unfold fX2_startLine_s24 at hr
  refine r_iload dX2_startLine_24 2 rfl (Or.inl rfl) ?_
  refine r_bipush dX2_startLine_26 (by decide) (by decide) ?_
  refine r_icmp_ge dX2_startLine_28 (tgt := 45) (by decide) (fun hc => ?_) (fun hc => ?_)
  · have hr := ifn hr hc
    obtain rfl := Option.some.inj hr
    exact r_vret dX2_startLine_45 rfl (k0 _ hk) ⟨rfl, rfl⟩
  · have hr := ifp hr hc
    refine r_aload_n dX2_startLine_31 rfl 0 rfl (nl rfl) ?_
    refine r_iload_n dX2_startLine_32 rfl 1 rfl (Or.inl rfl) ?_
    refine r_iload dX2_startLine_33 2 rfl (Or.inl rfl) ?_
    refine r_iconst dX2_startLine_35 (by decide) ?_
    obtain ⟨h36, hg36, hr⟩ := bnd hr
    refine k_V (ci := 2) (o := a0) (T := TX2) (as := [(0, a1), (0, l4), (0, -1)]) (rest := []) (X := (none, h36)) (oX2_setPart hg36) gX2_setPart rfl (by decide) rfl (wsl_30 _ (List.mem_of_getElem? (i := 9) rfl)) rfl dX2_startLine_36 rfl ?_
    refine r_iinc (k := 2) (v := l4) dX2_startLine_39 rfl (by decide) (lv' := [(4, (0, w32 (l4 + 1))), (0, (12, a0)), (1, (0, a1))]) rfl ?_
    refine r_goto dX2_startLine_42 (tgt := 24) (by decide) ?_
    refine r_sub [1, 2, 0] (lv' := [(0, (12, a0)), (1, (0, a1)), (4, (0, w32 (l4 + 1)))]) rfl ?_
    obtain rfl := Option.some.inj hr
    exact k1 _ _ hk
set_option maxRecDepth 100000 in
set_option maxHeartbeats 4000000 in
theorem oX2_startLine_b0 {a0 a1 a2 a3 : Int} {K : hH → Prop} (k0 : ∀ r, K (r) → x = (none, r)) {r : hH} (hr : fX2_startLine h a0 a1 a2 a3 = some r) (hk : K r) : Wq p l e R s m args below meth c D G A H0 true n0 M_X2_startLine x 0 0 0 [(0, (12, a0)), (1, (0, a1)), (2, (0, a2)), (3, (0, a3))] [] h := by
  unfold fX2_startLine at hr
  refine r_aload_n dX2_startLine_0 rfl 0 rfl (nl rfl) ?_
  refine r_iload_n dX2_startLine_1 rfl 1 rfl (Or.inl rfl) ?_
  refine r_iconst dX2_startLine_2 (by decide) ?_
  refine r_iload_n dX2_startLine_3 rfl 2 rfl (Or.inl rfl) ?_
  obtain ⟨h4, hg4, hr⟩ := bnd hr
  refine k_V (ci := 2) (o := a0) (T := TX2) (as := [(0, a1), (0, 0), (0, a2)]) (rest := []) (X := (none, h4)) (oX2_setPart hg4) gX2_setPart rfl (by decide) rfl (wsl_30 _ (List.mem_of_getElem? (i := 9) rfl)) rfl dX2_startLine_4 rfl ?_
  refine r_aload_n dX2_startLine_7 rfl 0 rfl (nl rfl) ?_
  refine r_iload_n dX2_startLine_8 rfl 1 rfl (Or.inl rfl) ?_
  refine r_iconst dX2_startLine_9 (by decide) ?_
  refine r_iload_n dX2_startLine_10 rfl 3 rfl (Or.inl rfl) ?_
  obtain ⟨h11, hg11, hr⟩ := bnd hr
  refine k_V (ci := 2) (o := a0) (T := TX2) (as := [(0, a1), (0, 1), (0, a3)]) (rest := []) (X := (none, h11)) (oX2_setPart hg11) gX2_setPart rfl (by decide) rfl (wsl_30 _ (List.mem_of_getElem? (i := 9) rfl)) rfl dX2_startLine_11 rfl ?_
  refine r_aload_n dX2_startLine_14 rfl 0 rfl (nl rfl) ?_
  refine r_iload_n dX2_startLine_15 rfl 1 rfl (Or.inl rfl) ?_
  refine r_iconst dX2_startLine_16 (by decide) ?_
  refine r_iconst dX2_startLine_17 (by decide) ?_
  obtain ⟨h18, hg18, hr⟩ := bnd hr
  refine k_V (ci := 2) (o := a0) (T := TX2) (as := [(0, a1), (0, 2), (0, 0)]) (rest := []) (X := (none, h18)) (oX2_setPart hg18) gX2_setPart rfl (by decide) rfl (wsl_30 _ (List.mem_of_getElem? (i := 9) rfl)) rfl dX2_startLine_18 rfl ?_
  refine r_iconst dX2_startLine_21 (by decide) ?_
  refine r_istore dX2_startLine_22 (Or.inl rfl) (by decide) (lv' := [(4, (0, 3)), (0, (12, a0)), (1, (0, a1)), (2, (0, a2)), (3, (0, a3))]) rfl ?_
  refine r_sub [1, 2, 0] (lv' := [(0, (12, a0)), (1, (0, a1)), (4, (0, 3))]) rfl ?_
  exact lp_ok (w := fun (q : hH × Int) => Wq p l e R s m args below meth c D G A H0 true n0 M_X2_startLine x 0 0 24 [(0, (12, a0)), (1, (0, a1)), (4, (0, q.2))] [] (q.1)) (K := K) (fun ⟨q0, q1⟩ r h1 h2 => oX2_startLine_s24 (K := Sum.elim (fun (q : hH × Int) => Wq p l e R s m args below meth c D G A H0 true n0 M_X2_startLine x 0 0 24 [(0, (12, a0)), (1, (0, a1)), (4, (0, q.2))] [] (q.1)) (K)) (fun r z => k0 r z) (fun _ _ z => z) h1 h2) hr hk
end M_X2_startLine
theorem oX2_startLine {l : Launch} {D : va_G} {G : gG} {h : hH} {a0 a1 a2 a3 : Int} {r : hH} (hr : fX2_startLine h a0 a1 a2 a3 = some r) : Ctr l D G true yX2_startLine M_X2_startLine [(12, a0), (0, a1), (0, a2), (0, a3)] h (none, r) :=
  Ctr_of (by decide) rfl (fun z => by cases z) (nl rfl) (fun {p e R s m args below meth c A H0} => by
    exact oX2_startLine_b0 (K := fun z9 => z9 = r) (fun r9 z => by rw [z]) hr rfl)
/-! X2_addCond -/
theorem dX2_addCond_0 : decode cX2_addCond 0 = .ok (.aload_n 0, 1) := by decide +kernel
theorem dX2_addCond_1 : decode cX2_addCond 1 = .ok (.iload_n 1, 1) := by decide +kernel
theorem dX2_addCond_2 : decode cX2_addCond 2 = .ok (.iconst 2, 1) := by decide +kernel
theorem dX2_addCond_3 : decode cX2_addCond 3 = .ok (.invokevirtual 35, 3) := by decide +kernel
theorem dX2_addCond_6 : decode cX2_addCond 6 = .ok (.istore 5, 2) := by decide +kernel
theorem dX2_addCond_8 : decode cX2_addCond 8 = .ok (.bipush 7, 2) := by decide +kernel
theorem dX2_addCond_10 : decode cX2_addCond 10 = .ok (.iload 5, 2) := by decide +kernel
theorem dX2_addCond_12 : decode cX2_addCond 12 = .ok (.iconst 3, 1) := by decide +kernel
theorem dX2_addCond_13 : decode cX2_addCond 13 = .ok (.imul, 1) := by decide +kernel
theorem dX2_addCond_14 : decode cX2_addCond 14 = .ok (.iadd, 1) := by decide +kernel
theorem dX2_addCond_15 : decode cX2_addCond 15 = .ok (.istore 6, 2) := by decide +kernel
theorem dX2_addCond_17 : decode cX2_addCond 17 = .ok (.iload 5, 2) := by decide +kernel
theorem dX2_addCond_19 : decode cX2_addCond 19 = .ok (.ifCond .lt 48, 3) := by decide +kernel
theorem dX2_addCond_22 : decode cX2_addCond 22 = .ok (.iload 5, 2) := by decide +kernel
theorem dX2_addCond_24 : decode cX2_addCond 24 = .ok (.iconst 4, 1) := by decide +kernel
theorem dX2_addCond_25 : decode cX2_addCond 25 = .ok (.if_icmp .ge 42, 3) := by decide +kernel
theorem dX2_addCond_28 : decode cX2_addCond 28 = .ok (.aload_n 0, 1) := by decide +kernel
theorem dX2_addCond_29 : decode cX2_addCond 29 = .ok (.iload_n 1, 1) := by decide +kernel
theorem dX2_addCond_30 : decode cX2_addCond 30 = .ok (.iload 6, 2) := by decide +kernel
theorem dX2_addCond_32 : decode cX2_addCond 32 = .ok (.iload_n 2, 1) := by decide +kernel
theorem dX2_addCond_33 : decode cX2_addCond 33 = .ok (.invokevirtual 31, 3) := by decide +kernel
theorem dX2_addCond_36 : decode cX2_addCond 36 = .ok (.aload_n 0, 1) := by decide +kernel
theorem dX2_addCond_37 : decode cX2_addCond 37 = .ok (.iload_n 1, 1) := by decide +kernel
theorem dX2_addCond_38 : decode cX2_addCond 38 = .ok (.iload 6, 2) := by decide +kernel
theorem dX2_addCond_40 : decode cX2_addCond 40 = .ok (.iconst 1, 1) := by decide +kernel
theorem dX2_addCond_41 : decode cX2_addCond 41 = .ok (.iadd, 1) := by decide +kernel
theorem dX2_addCond_42 : decode cX2_addCond 42 = .ok (.iload_n 3, 1) := by decide +kernel
theorem dX2_addCond_43 : decode cX2_addCond 43 = .ok (.invokevirtual 31, 3) := by decide +kernel
theorem dX2_addCond_46 : decode cX2_addCond 46 = .ok (.aload_n 0, 1) := by decide +kernel
theorem dX2_addCond_47 : decode cX2_addCond 47 = .ok (.iload_n 1, 1) := by decide +kernel
theorem dX2_addCond_48 : decode cX2_addCond 48 = .ok (.iload 6, 2) := by decide +kernel
theorem dX2_addCond_50 : decode cX2_addCond 50 = .ok (.iconst 2, 1) := by decide +kernel
theorem dX2_addCond_51 : decode cX2_addCond 51 = .ok (.iadd, 1) := by decide +kernel
theorem dX2_addCond_52 : decode cX2_addCond 52 = .ok (.iload 4, 2) := by decide +kernel
theorem dX2_addCond_54 : decode cX2_addCond 54 = .ok (.invokevirtual 31, 3) := by decide +kernel
theorem dX2_addCond_57 : decode cX2_addCond 57 = .ok (.aload_n 0, 1) := by decide +kernel
theorem dX2_addCond_58 : decode cX2_addCond 58 = .ok (.iload_n 1, 1) := by decide +kernel
theorem dX2_addCond_59 : decode cX2_addCond 59 = .ok (.iconst 2, 1) := by decide +kernel
theorem dX2_addCond_60 : decode cX2_addCond 60 = .ok (.iload 5, 2) := by decide +kernel
theorem dX2_addCond_62 : decode cX2_addCond 62 = .ok (.iconst 1, 1) := by decide +kernel
theorem dX2_addCond_63 : decode cX2_addCond 63 = .ok (.iadd, 1) := by decide +kernel
theorem dX2_addCond_64 : decode cX2_addCond 64 = .ok (.invokevirtual 31, 3) := by decide +kernel
theorem dX2_addCond_67 : decode cX2_addCond 67 = .ok (.return_, 1) := by decide +kernel
abbrev M_X2_addCond : mM := (cX2_addCond, 7, RX2, none, false, 2, 45, 0, 0)
theorem gX2_addCond : cI yX2_addCond M_X2_addCond 4 := ⟨(wsl_31 _ (List.mem_of_getElem? (i := 8) rfl)), (wsl_31 _ (List.mem_of_getElem? (i := 9) rfl)), (wsl_2 _ (List.mem_of_getElem? (i := 15) rfl)), (wsl_31 _ (List.mem_of_getElem? (i := 10) rfl)), by decide +kernel⟩
noncomputable def fX2_addCond (h : hH) (a0 a1 a2 a3 a4 : Int) : Option (hH) :=
  (fX2_part h a0 a1 2).bind fun r3 =>
  if r3 < 0 then
    some h
  else
    if r3 < 4 then
      (fX2_setPart h a0 a1 (w32 (7 + (w32 (r3 * 3)))) a2).bind fun h33 =>
      (fX2_setPart h33 a0 a1 (w32 ((w32 (7 + (w32 (r3 * 3)))) + 1)) a3).bind fun h43 =>
      (fX2_setPart h43 a0 a1 (w32 ((w32 (7 + (w32 (r3 * 3)))) + 2)) a4).bind fun h54 =>
      (fX2_setPart h54 a0 a1 2 (w32 (r3 + 1))).bind fun h64 =>
      some h64
    else
      some h
section M_X2_addCond
variable {p : Program} {l : Launch} {e : Env} {R : Room} {s : State} {m : MethodId} {args : Array Value} {below : List Frame} {meth : Method} {c : Code} {D : va_G} {G : gG} {A : Nat → Prop} {H0 : Heap} {n0 : Int} {x : Option vV × hH} {h : hH}
set_option maxRecDepth 100000 in
set_option maxHeartbeats 4000000 in
theorem oX2_addCond_b0 {a0 a1 a2 a3 a4 : Int} {K : hH → Prop} (k0 : ∀ r, K (r) → x = (none, r)) {r : hH} (hr : fX2_addCond h a0 a1 a2 a3 a4 = some r) (hk : K r) : Wq p l e R s m args below meth c D G A H0 true n0 M_X2_addCond x 0 0 0 [(0, (12, a0)), (1, (0, a1)), (2, (0, a2)), (3, (0, a3)), (4, (0, a4))] [] h := by
  unfold fX2_addCond at hr
  refine r_aload_n dX2_addCond_0 rfl 0 rfl (nl rfl) ?_
  refine r_iload_n dX2_addCond_1 rfl 1 rfl (Or.inl rfl) ?_
  refine r_iconst dX2_addCond_2 (by decide) ?_
  obtain ⟨r3, hg3, hr⟩ := bnd hr
  refine k_V (ci := 2) (o := a0) (T := TX2) (as := [(0, a1), (0, 2)]) (rest := []) (X := (some (0, r3), h)) (oX2_part hg3) gX2_part rfl (by decide) rfl (wsl_31 _ (List.mem_of_getElem? (i := 11) rfl)) rfl dX2_addCond_3 rfl ?_
  refine r_istore dX2_addCond_6 (Or.inl rfl) (by decide) (lv' := [(5, (0, r3)), (0, (12, a0)), (1, (0, a1)), (2, (0, a2)), (3, (0, a3)), (4, (0, a4))]) rfl ?_
  refine r_bipush dX2_addCond_8 (by decide) (by decide) ?_
  refine r_iload dX2_addCond_10 0 rfl (Or.inl rfl) ?_
  refine r_iconst dX2_addCond_12 (by decide) ?_
  refine r_imul dX2_addCond_13 ?_
  refine r_iadd dX2_addCond_14 ?_
  refine r_istore dX2_addCond_15 (Or.inl rfl) (by decide) (lv' := [(6, (0, w32 (7 + (w32 (r3 * 3))))), (5, (0, r3)), (0, (12, a0)), (1, (0, a1)), (2, (0, a2)), (3, (0, a3)), (4, (0, a4))]) rfl ?_
  refine r_iload dX2_addCond_17 1 rfl (Or.inl rfl) ?_
  refine r_if_lt dX2_addCond_19 (tgt := 67) (by decide) (fun hc => ?_) (fun hc => ?_)
  · have hr := ifp hr hc
    obtain rfl := Option.some.inj hr
    exact r_vret dX2_addCond_67 rfl (k0 _ hk) ⟨rfl, rfl⟩
  · have hr := ifn hr hc
    refine r_iload dX2_addCond_22 1 rfl (Or.inl rfl) ?_
    refine r_iconst dX2_addCond_24 (by decide) ?_
    refine r_icmp_ge dX2_addCond_25 (tgt := 67) (by decide) (fun hc => ?_) (fun hc => ?_)
    · have hr := ifn hr hc
      obtain rfl := Option.some.inj hr
      exact r_vret dX2_addCond_67 rfl (k0 _ hk) ⟨rfl, rfl⟩
    · have hr := ifp hr hc
      refine r_aload_n dX2_addCond_28 rfl 2 rfl (nl rfl) ?_
      refine r_iload_n dX2_addCond_29 rfl 3 rfl (Or.inl rfl) ?_
      refine r_iload dX2_addCond_30 0 rfl (Or.inl rfl) ?_
      refine r_iload_n dX2_addCond_32 rfl 4 rfl (Or.inl rfl) ?_
      obtain ⟨h33, hg33, hr⟩ := bnd hr
      refine k_V (ci := 2) (o := a0) (T := TX2) (as := [(0, a1), (0, w32 (7 + (w32 (r3 * 3)))), (0, a2)]) (rest := []) (X := (none, h33)) (oX2_setPart hg33) gX2_setPart rfl (by decide) rfl (wsl_30 _ (List.mem_of_getElem? (i := 9) rfl)) rfl dX2_addCond_33 rfl ?_
      refine r_aload_n dX2_addCond_36 rfl 2 rfl (nl rfl) ?_
      refine r_iload_n dX2_addCond_37 rfl 3 rfl (Or.inl rfl) ?_
      refine r_iload dX2_addCond_38 0 rfl (Or.inl rfl) ?_
      refine r_iconst dX2_addCond_40 (by decide) ?_
      refine r_iadd dX2_addCond_41 ?_
      refine r_iload_n dX2_addCond_42 rfl 5 rfl (Or.inl rfl) ?_
      obtain ⟨h43, hg43, hr⟩ := bnd hr
      refine k_V (ci := 2) (o := a0) (T := TX2) (as := [(0, a1), (0, w32 ((w32 (7 + (w32 (r3 * 3)))) + 1)), (0, a3)]) (rest := []) (X := (none, h43)) (oX2_setPart hg43) gX2_setPart rfl (by decide) rfl (wsl_30 _ (List.mem_of_getElem? (i := 9) rfl)) rfl dX2_addCond_43 rfl ?_
      refine r_aload_n dX2_addCond_46 rfl 2 rfl (nl rfl) ?_
      refine r_iload_n dX2_addCond_47 rfl 3 rfl (Or.inl rfl) ?_
      refine r_iload dX2_addCond_48 0 rfl (Or.inl rfl) ?_
      refine r_iconst dX2_addCond_50 (by decide) ?_
      refine r_iadd dX2_addCond_51 ?_
      refine r_iload dX2_addCond_52 6 rfl (Or.inl rfl) ?_
      obtain ⟨h54, hg54, hr⟩ := bnd hr
      refine k_V (ci := 2) (o := a0) (T := TX2) (as := [(0, a1), (0, w32 ((w32 (7 + (w32 (r3 * 3)))) + 2)), (0, a4)]) (rest := []) (X := (none, h54)) (oX2_setPart hg54) gX2_setPart rfl (by decide) rfl (wsl_30 _ (List.mem_of_getElem? (i := 9) rfl)) rfl dX2_addCond_54 rfl ?_
      refine r_aload_n dX2_addCond_57 rfl 2 rfl (nl rfl) ?_
      refine r_iload_n dX2_addCond_58 rfl 3 rfl (Or.inl rfl) ?_
      refine r_iconst dX2_addCond_59 (by decide) ?_
      refine r_iload dX2_addCond_60 1 rfl (Or.inl rfl) ?_
      refine r_iconst dX2_addCond_62 (by decide) ?_
      refine r_iadd dX2_addCond_63 ?_
      obtain ⟨h64, hg64, hr⟩ := bnd hr
      refine k_V (ci := 2) (o := a0) (T := TX2) (as := [(0, a1), (0, 2), (0, w32 (r3 + 1))]) (rest := []) (X := (none, h64)) (oX2_setPart hg64) gX2_setPart rfl (by decide) rfl (wsl_30 _ (List.mem_of_getElem? (i := 9) rfl)) rfl dX2_addCond_64 rfl ?_
      obtain rfl := Option.some.inj hr
      exact r_vret dX2_addCond_67 rfl (k0 _ hk) ⟨rfl, rfl⟩
end M_X2_addCond
theorem oX2_addCond {l : Launch} {D : va_G} {G : gG} {h : hH} {a0 a1 a2 a3 a4 : Int} {r : hH} (hr : fX2_addCond h a0 a1 a2 a3 a4 = some r) : Ctr l D G true yX2_addCond M_X2_addCond [(12, a0), (0, a1), (0, a2), (0, a3), (0, a4)] h (none, r) :=
  Ctr_of (by decide) rfl (fun z => by cases z) (nl rfl) (fun {p e R s m args below meth c A H0} => by
    exact oX2_addCond_b0 (K := fun z9 => z9 = r) (fun r9 z => by rw [z]) hr rfl)
/-! X9_byteIn -/
theorem dX9_byteIn_0 : decode cX9_byteIn 0 = .ok (.iload_n 1, 1) := by decide +kernel
theorem dX9_byteIn_1 : decode cX9_byteIn 1 = .ok (.ifCond .lt 25, 3) := by decide +kernel
theorem dX9_byteIn_4 : decode cX9_byteIn 4 = .ok (.iload_n 1, 1) := by decide +kernel
theorem dX9_byteIn_5 : decode cX9_byteIn 5 = .ok (.aload_n 0, 1) := by decide +kernel
theorem dX9_byteIn_6 : decode cX9_byteIn 6 = .ok (.getfield 9, 3) := by decide +kernel
theorem dX9_byteIn_9 : decode cX9_byteIn 9 = .ok (.arraylength, 1) := by decide +kernel
theorem dX9_byteIn_10 : decode cX9_byteIn 10 = .ok (.if_icmp .ge 16, 3) := by decide +kernel
theorem dX9_byteIn_13 : decode cX9_byteIn 13 = .ok (.aload_n 0, 1) := by decide +kernel
theorem dX9_byteIn_14 : decode cX9_byteIn 14 = .ok (.getfield 9, 3) := by decide +kernel
theorem dX9_byteIn_17 : decode cX9_byteIn 17 = .ok (.iload_n 1, 1) := by decide +kernel
theorem dX9_byteIn_18 : decode cX9_byteIn 18 = .ok (.baload, 1) := by decide +kernel
theorem dX9_byteIn_19 : decode cX9_byteIn 19 = .ok (.sipush 255, 3) := by decide +kernel
theorem dX9_byteIn_22 : decode cX9_byteIn 22 = .ok (.iand, 1) := by decide +kernel
theorem dX9_byteIn_23 : decode cX9_byteIn 23 = .ok (.goto 4, 3) := by decide +kernel
theorem dX9_byteIn_26 : decode cX9_byteIn 26 = .ok (.iconst 0, 1) := by decide +kernel
theorem dX9_byteIn_27 : decode cX9_byteIn 27 = .ok (.ireturn, 1) := by decide +kernel
abbrev M_X9_byteIn : mM := (cX9_byteIn, 2, RX9, some .int, false, 0, 0, 0, 0)
theorem gX9_byteIn : cI yX9_byteIn M_X9_byteIn 1 := ⟨(wsl_12 _ (List.mem_of_getElem? (i := 13) rfl)), (wsl_12 _ (List.mem_of_getElem? (i := 14) rfl)), (wsl_1 _ (List.mem_of_getElem? (i := 15) rfl)), (wsl_12 _ (List.mem_of_getElem? (i := 15) rfl)), by decide +kernel⟩
noncomputable def fX9_byteIn (h : hH) (a0 a1 : Int) : Option (Int) :=
  if a1 < 0 then
    some 0
  else
    if a1 < h (h a0 0) (-1) then
      (aget h (h a0 0) a1).bind fun v18 =>
      some (iadD v18 255)
    else
      some 0
section M_X9_byteIn
variable {p : Program} {l : Launch} {e : Env} {R : Room} {s : State} {m : MethodId} {args : Array Value} {below : List Frame} {meth : Method} {c : Code} {D : va_G} {G : gG} {A : Nat → Prop} {H0 : Heap} {n0 : Int} {x : Option vV × hH} {h : hH}
set_option maxRecDepth 100000 in
set_option maxHeartbeats 4000000 in
theorem oX9_byteIn_b0 {a0 a1 : Int} {K : Int → Prop} (k0 : ∀ r, K (r) → x = (some (0, r), h)) {r : Int} (hr : fX9_byteIn h a0 a1 = some r) (hk : K r) : Wq p l e R s m args below meth c D G A H0 true n0 M_X9_byteIn x 0 0 0 [(0, (19, a0)), (1, (0, a1))] [] h := by
  unfold fX9_byteIn at hr
  refine r_iload_n dX9_byteIn_0 rfl 1 rfl (Or.inl rfl) ?_
  refine r_if_lt dX9_byteIn_1 (tgt := 26) (by decide) (fun hc => ?_) (fun hc => ?_)
  · have hr := ifp hr hc
    refine r_iconst dX9_byteIn_26 (by decide) ?_
    obtain rfl := Option.some.inj hr
    exact r_ret dX9_byteIn_27 rfl (Or.inl ⟨rfl, rfl⟩) (k0 _ hk) ⟨rfl, rfl⟩
  · have hr := ifn hr hc
    refine r_iload_n dX9_byteIn_4 rfl 1 rfl (Or.inl rfl) ?_
    refine r_aload_n dX9_byteIn_5 rfl 0 rfl (nl rfl) ?_
    refine r_get 9 0 (o := a0) (w := (52, h a0 0)) (T := TX9) (ref := "FollowingRefs$Text") rfl (by decide) rfl (by decide) inlX9 (wsl_3 _ (List.mem_of_getElem? (i := 11) rfl)) rfl dX9_byteIn_6 rfl ?_
    refine r_alen (t := 52) (by decide) (by decide) dX9_byteIn_9 ?_
    refine r_icmp_ge dX9_byteIn_10 (tgt := 26) (by decide) (fun hc => ?_) (fun hc => ?_)
    · have hr := ifn hr hc
      refine r_iconst dX9_byteIn_26 (by decide) ?_
      obtain rfl := Option.some.inj hr
      exact r_ret dX9_byteIn_27 rfl (Or.inl ⟨rfl, rfl⟩) (k0 _ hk) ⟨rfl, rfl⟩
    · have hr := ifp hr hc
      refine r_aload_n dX9_byteIn_13 rfl 0 rfl (nl rfl) ?_
      refine r_get 9 0 (o := a0) (w := (52, h a0 0)) (T := TX9) (ref := "FollowingRefs$Text") rfl (by decide) rfl (by decide) inlX9 (wsl_3 _ (List.mem_of_getElem? (i := 11) rfl)) rfl dX9_byteIn_14 rfl ?_
      refine r_iload_n dX9_byteIn_17 rfl 1 rfl (Or.inl rfl) ?_
      obtain ⟨v18, hg18, hr⟩ := bnd hr
      refine r_bald dX9_byteIn_18 hg18 ?_
      refine r_sipush dX9_byteIn_19 (by decide) (by decide) ?_
      refine r_iand dX9_byteIn_22 ?_
      refine r_goto dX9_byteIn_23 (tgt := 27) (by decide) ?_
      obtain rfl := Option.some.inj hr
      exact r_ret dX9_byteIn_27 rfl (Or.inl ⟨rfl, rfl⟩) (k0 _ hk) ⟨rfl, rfl⟩
end M_X9_byteIn
theorem oX9_byteIn {l : Launch} {D : va_G} {G : gG} {h : hH} {a0 a1 : Int} {r : Int} (hr : fX9_byteIn h a0 a1 = some r) : Ctr l D G true yX9_byteIn M_X9_byteIn [(19, a0), (0, a1)] h (some (0, r), h) :=
  Ctr_of (by decide) rfl (fun z => by cases z) (nl rfl) (fun {p e R s m args below meth c A H0} => by
    exact oX9_byteIn_b0 (K := fun z9 => z9 = r) (fun r9 z => by rw [z]) hr rfl)
/-! X9_isLetter -/
theorem dX9_isLetter_0 : decode cX9_isLetter 0 = .ok (.iload_n 0, 1) := by decide +kernel
theorem dX9_isLetter_1 : decode cX9_isLetter 1 = .ok (.bipush 97, 2) := by decide +kernel
theorem dX9_isLetter_3 : decode cX9_isLetter 3 = .ok (.if_icmp .lt 13, 3) := by decide +kernel
theorem dX9_isLetter_6 : decode cX9_isLetter 6 = .ok (.iload_n 0, 1) := by decide +kernel
theorem dX9_isLetter_7 : decode cX9_isLetter 7 = .ok (.bipush 122, 2) := by decide +kernel
theorem dX9_isLetter_9 : decode cX9_isLetter 9 = .ok (.if_icmp .gt 7, 3) := by decide +kernel
theorem dX9_isLetter_12 : decode cX9_isLetter 12 = .ok (.iconst 1, 1) := by decide +kernel
theorem dX9_isLetter_13 : decode cX9_isLetter 13 = .ok (.goto 4, 3) := by decide +kernel
theorem dX9_isLetter_16 : decode cX9_isLetter 16 = .ok (.iconst 0, 1) := by decide +kernel
theorem dX9_isLetter_17 : decode cX9_isLetter 17 = .ok (.ireturn, 1) := by decide +kernel
abbrev M_X9_isLetter : mM := (cX9_isLetter, 1, RX9, some .boolean, false, 0, 0, 0, 0)
theorem gX9_isLetter : cS yX9_isLetter M_X9_isLetter 1 := ⟨(wsl_12 _ (List.mem_of_getElem? (i := 17) rfl)), (wsl_1 _ (List.mem_of_getElem? (i := 15) rfl)), (wsl_12 _ (List.mem_of_getElem? (i := 18) rfl)), by decide +kernel⟩
noncomputable def fX9_isLetter (h : hH) (a0 : Int) : Option (Int) :=
  if a0 < 97 then
    some 0
  else
    if 122 < a0 then
      some 0
    else
      some 1
section M_X9_isLetter
variable {p : Program} {l : Launch} {e : Env} {R : Room} {s : State} {m : MethodId} {args : Array Value} {below : List Frame} {meth : Method} {c : Code} {D : va_G} {G : gG} {A : Nat → Prop} {H0 : Heap} {n0 : Int} {x : Option vV × hH} {h : hH}
set_option maxRecDepth 100000 in
set_option maxHeartbeats 4000000 in
theorem oX9_isLetter_b0 {a0 : Int} {K : Int → Prop} (k0 : ∀ r, K (r) → x = (some (2, r), h)) {r : Int} (hr : fX9_isLetter h a0 = some r) (hk : K r) : Wq p l e R s m args below meth c D G A H0 true n0 M_X9_isLetter x 0 0 0 [(0, (0, a0))] [] h := by
  unfold fX9_isLetter at hr
  refine r_iload_n dX9_isLetter_0 rfl 0 rfl (Or.inl rfl) ?_
  refine r_bipush dX9_isLetter_1 (by decide) (by decide) ?_
  refine r_icmp_lt dX9_isLetter_3 (tgt := 16) (by decide) (fun hc => ?_) (fun hc => ?_)
  · have hr := ifp hr hc
    refine r_iconst dX9_isLetter_16 (by decide) ?_
    refine r_scast 0 (v := (0, 0)) (w := (2, 0)) rfl cz (fun _ => Or.inl rfl) (st' := [(2, 0)]) rfl ?_
    obtain rfl := Option.some.inj hr
    exact r_ret dX9_isLetter_17 rfl (Or.inr ⟨rfl, rfl⟩) (k0 _ hk) ⟨rfl, rfl⟩
  · have hr := ifn hr hc
    refine r_iload_n dX9_isLetter_6 rfl 0 rfl (Or.inl rfl) ?_
    refine r_bipush dX9_isLetter_7 (by decide) (by decide) ?_
    refine r_icmp_gt dX9_isLetter_9 (tgt := 16) (by decide) (fun hc => ?_) (fun hc => ?_)
    · have hr := ifp hr hc
      refine r_iconst dX9_isLetter_16 (by decide) ?_
      refine r_scast 0 (v := (0, 0)) (w := (2, 0)) rfl cz (fun _ => Or.inl rfl) (st' := [(2, 0)]) rfl ?_
      obtain rfl := Option.some.inj hr
      exact r_ret dX9_isLetter_17 rfl (Or.inr ⟨rfl, rfl⟩) (k0 _ hk) ⟨rfl, rfl⟩
    · have hr := ifn hr hc
      refine r_iconst dX9_isLetter_12 (by decide) ?_
      refine r_goto dX9_isLetter_13 (tgt := 17) (by decide) ?_
      refine r_scast 0 (v := (0, 1)) (w := (2, 1)) rfl cz (fun _ => Or.inr rfl) (st' := [(2, 1)]) rfl ?_
      obtain rfl := Option.some.inj hr
      exact r_ret dX9_isLetter_17 rfl (Or.inr ⟨rfl, rfl⟩) (k0 _ hk) ⟨rfl, rfl⟩
end M_X9_isLetter
theorem oX9_isLetter {l : Launch} {D : va_G} {G : gG} {h : hH} {a0 : Int} {r : Int} (hr : fX9_isLetter h a0 = some r) : Ctr l D G true yX9_isLetter M_X9_isLetter [(0, a0)] h (some (2, r), h) :=
  Ctr_of (by decide) rfl (fun z => by cases z) (nl rfl) (fun {p e R s m args below meth c A H0} => by
    exact oX9_isLetter_b0 (K := fun z9 => z9 = r) (fun r9 z => by rw [z]) hr rfl)
/-! X9_isDigit -/
theorem dX9_isDigit_0 : decode cX9_isDigit 0 = .ok (.iload_n 0, 1) := by decide +kernel
theorem dX9_isDigit_1 : decode cX9_isDigit 1 = .ok (.bipush 48, 2) := by decide +kernel
theorem dX9_isDigit_3 : decode cX9_isDigit 3 = .ok (.if_icmp .lt 13, 3) := by decide +kernel
theorem dX9_isDigit_6 : decode cX9_isDigit 6 = .ok (.iload_n 0, 1) := by decide +kernel
theorem dX9_isDigit_7 : decode cX9_isDigit 7 = .ok (.bipush 57, 2) := by decide +kernel
theorem dX9_isDigit_9 : decode cX9_isDigit 9 = .ok (.if_icmp .gt 7, 3) := by decide +kernel
theorem dX9_isDigit_12 : decode cX9_isDigit 12 = .ok (.iconst 1, 1) := by decide +kernel
theorem dX9_isDigit_13 : decode cX9_isDigit 13 = .ok (.goto 4, 3) := by decide +kernel
theorem dX9_isDigit_16 : decode cX9_isDigit 16 = .ok (.iconst 0, 1) := by decide +kernel
theorem dX9_isDigit_17 : decode cX9_isDigit 17 = .ok (.ireturn, 1) := by decide +kernel
abbrev M_X9_isDigit : mM := (cX9_isDigit, 1, RX9, some .boolean, false, 0, 0, 0, 0)
theorem gX9_isDigit : cS yX9_isDigit M_X9_isDigit 1 := ⟨(wsl_12 _ (List.mem_of_getElem? (i := 20) rfl)), (wsl_1 _ (List.mem_of_getElem? (i := 15) rfl)), (wsl_12 _ (List.mem_of_getElem? (i := 21) rfl)), by decide +kernel⟩
noncomputable def fX9_isDigit (h : hH) (a0 : Int) : Option (Int) :=
  if a0 < 48 then
    some 0
  else
    if 57 < a0 then
      some 0
    else
      some 1
section M_X9_isDigit
variable {p : Program} {l : Launch} {e : Env} {R : Room} {s : State} {m : MethodId} {args : Array Value} {below : List Frame} {meth : Method} {c : Code} {D : va_G} {G : gG} {A : Nat → Prop} {H0 : Heap} {n0 : Int} {x : Option vV × hH} {h : hH}
set_option maxRecDepth 100000 in
set_option maxHeartbeats 4000000 in
theorem oX9_isDigit_b0 {a0 : Int} {K : Int → Prop} (k0 : ∀ r, K (r) → x = (some (2, r), h)) {r : Int} (hr : fX9_isDigit h a0 = some r) (hk : K r) : Wq p l e R s m args below meth c D G A H0 true n0 M_X9_isDigit x 0 0 0 [(0, (0, a0))] [] h := by
  unfold fX9_isDigit at hr
  refine r_iload_n dX9_isDigit_0 rfl 0 rfl (Or.inl rfl) ?_
  refine r_bipush dX9_isDigit_1 (by decide) (by decide) ?_
  refine r_icmp_lt dX9_isDigit_3 (tgt := 16) (by decide) (fun hc => ?_) (fun hc => ?_)
  · have hr := ifp hr hc
    refine r_iconst dX9_isDigit_16 (by decide) ?_
    refine r_scast 0 (v := (0, 0)) (w := (2, 0)) rfl cz (fun _ => Or.inl rfl) (st' := [(2, 0)]) rfl ?_
    obtain rfl := Option.some.inj hr
    exact r_ret dX9_isDigit_17 rfl (Or.inr ⟨rfl, rfl⟩) (k0 _ hk) ⟨rfl, rfl⟩
  · have hr := ifn hr hc
    refine r_iload_n dX9_isDigit_6 rfl 0 rfl (Or.inl rfl) ?_
    refine r_bipush dX9_isDigit_7 (by decide) (by decide) ?_
    refine r_icmp_gt dX9_isDigit_9 (tgt := 16) (by decide) (fun hc => ?_) (fun hc => ?_)
    · have hr := ifp hr hc
      refine r_iconst dX9_isDigit_16 (by decide) ?_
      refine r_scast 0 (v := (0, 0)) (w := (2, 0)) rfl cz (fun _ => Or.inl rfl) (st' := [(2, 0)]) rfl ?_
      obtain rfl := Option.some.inj hr
      exact r_ret dX9_isDigit_17 rfl (Or.inr ⟨rfl, rfl⟩) (k0 _ hk) ⟨rfl, rfl⟩
    · have hr := ifn hr hc
      refine r_iconst dX9_isDigit_12 (by decide) ?_
      refine r_goto dX9_isDigit_13 (tgt := 17) (by decide) ?_
      refine r_scast 0 (v := (0, 1)) (w := (2, 1)) rfl cz (fun _ => Or.inr rfl) (st' := [(2, 1)]) rfl ?_
      obtain rfl := Option.some.inj hr
      exact r_ret dX9_isDigit_17 rfl (Or.inr ⟨rfl, rfl⟩) (k0 _ hk) ⟨rfl, rfl⟩
end M_X9_isDigit
theorem oX9_isDigit {l : Launch} {D : va_G} {G : gG} {h : hH} {a0 : Int} {r : Int} (hr : fX9_isDigit h a0 = some r) : Ctr l D G true yX9_isDigit M_X9_isDigit [(0, a0)] h (some (2, r), h) :=
  Ctr_of (by decide) rfl (fun z => by cases z) (nl rfl) (fun {p e R s m args below meth c A H0} => by
    exact oX9_isDigit_b0 (K := fun z9 => z9 = r) (fun r9 z => by rw [z]) hr rfl)
/-! X9_keep -/
theorem dX9_keep_0 : decode cX9_keep 0 = .ok (.aload_n 0, 1) := by decide +kernel
theorem dX9_keep_1 : decode cX9_keep 1 = .ok (.getfield 29, 3) := by decide +kernel
theorem dX9_keep_4 : decode cX9_keep 4 = .ok (.ifCond .lt 47, 3) := by decide +kernel
theorem dX9_keep_7 : decode cX9_keep 7 = .ok (.aload_n 0, 1) := by decide +kernel
theorem dX9_keep_8 : decode cX9_keep 8 = .ok (.getfield 29, 3) := by decide +kernel
theorem dX9_keep_11 : decode cX9_keep 11 = .ok (.aload_n 0, 1) := by decide +kernel
theorem dX9_keep_12 : decode cX9_keep 12 = .ok (.getfield 15, 3) := by decide +kernel
theorem dX9_keep_15 : decode cX9_keep 15 = .ok (.arraylength, 1) := by decide +kernel
theorem dX9_keep_16 : decode cX9_keep 16 = .ok (.if_icmp .ge 35, 3) := by decide +kernel
theorem dX9_keep_19 : decode cX9_keep 19 = .ok (.aload_n 0, 1) := by decide +kernel
theorem dX9_keep_20 : decode cX9_keep 20 = .ok (.getfield 15, 3) := by decide +kernel
theorem dX9_keep_23 : decode cX9_keep 23 = .ok (.aload_n 0, 1) := by decide +kernel
theorem dX9_keep_24 : decode cX9_keep 24 = .ok (.getfield 29, 3) := by decide +kernel
theorem dX9_keep_27 : decode cX9_keep 27 = .ok (.lload_n 3, 1) := by decide +kernel
theorem dX9_keep_28 : decode cX9_keep 28 = .ok (.bipush 20, 2) := by decide +kernel
theorem dX9_keep_30 : decode cX9_keep 30 = .ok (.lshl, 1) := by decide +kernel
theorem dX9_keep_31 : decode cX9_keep 31 = .ok (.iload_n 2, 1) := by decide +kernel
theorem dX9_keep_32 : decode cX9_keep 32 = .ok (.bipush 8, 2) := by decide +kernel
theorem dX9_keep_34 : decode cX9_keep 34 = .ok (.ishl, 1) := by decide +kernel
theorem dX9_keep_35 : decode cX9_keep 35 = .ok (.i2l, 1) := by decide +kernel
theorem dX9_keep_36 : decode cX9_keep 36 = .ok (.lor, 1) := by decide +kernel
theorem dX9_keep_37 : decode cX9_keep 37 = .ok (.iload_n 1, 1) := by decide +kernel
theorem dX9_keep_38 : decode cX9_keep 38 = .ok (.i2l, 1) := by decide +kernel
theorem dX9_keep_39 : decode cX9_keep 39 = .ok (.lor, 1) := by decide +kernel
theorem dX9_keep_40 : decode cX9_keep 40 = .ok (.lastore, 1) := by decide +kernel
theorem dX9_keep_41 : decode cX9_keep 41 = .ok (.aload_n 0, 1) := by decide +kernel
theorem dX9_keep_42 : decode cX9_keep 42 = .ok (.dup, 1) := by decide +kernel
theorem dX9_keep_43 : decode cX9_keep 43 = .ok (.getfield 29, 3) := by decide +kernel
theorem dX9_keep_46 : decode cX9_keep 46 = .ok (.iconst 1, 1) := by decide +kernel
theorem dX9_keep_47 : decode cX9_keep 47 = .ok (.iadd, 1) := by decide +kernel
theorem dX9_keep_48 : decode cX9_keep 48 = .ok (.putfield 29, 3) := by decide +kernel
theorem dX9_keep_51 : decode cX9_keep 51 = .ok (.return_, 1) := by decide +kernel
abbrev M_X9_keep : mM := (cX9_keep, 5, RX9, none, false, 0, 0, 0, 0)
theorem gX9_keep : cI yX9_keep M_X9_keep 3 := ⟨(wsl_15 _ (List.mem_of_getElem? (i := 8) rfl)), (wsl_15 _ (List.mem_of_getElem? (i := 9) rfl)), (wsl_1 _ (List.mem_of_getElem? (i := 15) rfl)), (wsl_15 _ (List.mem_of_getElem? (i := 10) rfl)), by decide +kernel⟩
noncomputable def fX9_keep (h : hH) (a0 a1 a2 a3 : Int) : Option (hH) :=
  if h a0 3 < 0 then
    some h
  else
    if h a0 3 < h (h a0 2) (-1) then
      (aput h (h a0 2) (h a0 3) (lorD (lorD (lshD a3 20) (ishD a2 8)) a1)).bind fun h40 =>
      (pput h40 a0 3 (w32 ((h40 a0 3) + 1))).bind fun h48 =>
      some h48
    else
      some h
section M_X9_keep
variable {p : Program} {l : Launch} {e : Env} {R : Room} {s : State} {m : MethodId} {args : Array Value} {below : List Frame} {meth : Method} {c : Code} {D : va_G} {G : gG} {A : Nat → Prop} {H0 : Heap} {n0 : Int} {x : Option vV × hH} {h : hH}
set_option maxRecDepth 100000 in
set_option maxHeartbeats 4000000 in
theorem oX9_keep_b0 {a0 a1 a2 a3 : Int} {K : hH → Prop} (k0 : ∀ r, K (r) → x = (none, r)) {r : hH} (hr : fX9_keep h a0 a1 a2 a3 = some r) (hk : K r) : Wq p l e R s m args below meth c D G A H0 true n0 M_X9_keep x 0 0 0 [(0, (19, a0)), (1, (0, a1)), (2, (0, a2)), (3, (1, a3))] [] h := by
  unfold fX9_keep at hr
  refine r_aload_n dX9_keep_0 rfl 0 rfl (nl rfl) ?_
  refine r_get 9 3 (o := a0) (w := (0, h a0 3)) (T := TX9) (ref := "FollowingRefs$Text") rfl (by decide) rfl (by decide) inlX9 (wsl_12 _ (List.mem_of_getElem? (i := 6) rfl)) rfl dX9_keep_1 rfl ?_
  refine r_if_lt dX9_keep_4 (tgt := 51) (by decide) (fun hc => ?_) (fun hc => ?_)
  · have hr := ifp hr hc
    obtain rfl := Option.some.inj hr
    exact r_vret dX9_keep_51 rfl (k0 _ hk) ⟨rfl, rfl⟩
  · have hr := ifn hr hc
    refine r_aload_n dX9_keep_7 rfl 0 rfl (nl rfl) ?_
    refine r_get 9 3 (o := a0) (w := (0, h a0 3)) (T := TX9) (ref := "FollowingRefs$Text") rfl (by decide) rfl (by decide) inlX9 (wsl_12 _ (List.mem_of_getElem? (i := 6) rfl)) rfl dX9_keep_8 rfl ?_
    refine r_aload_n dX9_keep_11 rfl 0 rfl (nl rfl) ?_
    refine r_get 9 2 (o := a0) (w := (51, h a0 2)) (T := TX9) (ref := "FollowingRefs$Text") rfl (by decide) rfl (by decide) inlX9 (wsl_3 _ (List.mem_of_getElem? (i := 12) rfl)) rfl dX9_keep_12 rfl ?_
    refine r_alen (t := 51) (by decide) (by decide) dX9_keep_15 ?_
    refine r_icmp_ge dX9_keep_16 (tgt := 51) (by decide) (fun hc => ?_) (fun hc => ?_)
    · have hr := ifn hr hc
      obtain rfl := Option.some.inj hr
      exact r_vret dX9_keep_51 rfl (k0 _ hk) ⟨rfl, rfl⟩
    · have hr := ifp hr hc
      refine r_aload_n dX9_keep_19 rfl 0 rfl (nl rfl) ?_
      refine r_get 9 2 (o := a0) (w := (51, h a0 2)) (T := TX9) (ref := "FollowingRefs$Text") rfl (by decide) rfl (by decide) inlX9 (wsl_3 _ (List.mem_of_getElem? (i := 12) rfl)) rfl dX9_keep_20 rfl ?_
      refine r_aload_n dX9_keep_23 rfl 0 rfl (nl rfl) ?_
      refine r_get 9 3 (o := a0) (w := (0, h a0 3)) (T := TX9) (ref := "FollowingRefs$Text") rfl (by decide) rfl (by decide) inlX9 (wsl_12 _ (List.mem_of_getElem? (i := 6) rfl)) rfl dX9_keep_24 rfl ?_
      refine r_lload_n dX9_keep_27 rfl 3 rfl ?_
      refine r_bipush dX9_keep_28 (by decide) (by decide) ?_
      refine r_lshl dX9_keep_30 ?_
      refine r_iload_n dX9_keep_31 rfl 2 rfl (Or.inl rfl) ?_
      refine r_bipush dX9_keep_32 (by decide) (by decide) ?_
      refine r_ishl dX9_keep_34 ?_
      refine r_i2l dX9_keep_35 ?_
      refine r_lor dX9_keep_36 ?_
      refine r_iload_n dX9_keep_37 rfl 1 rfl (Or.inl rfl) ?_
      refine r_i2l dX9_keep_38 ?_
      refine r_lor dX9_keep_39 ?_
      obtain ⟨h40, hg40, hr⟩ := bnd hr
      refine r_last dX9_keep_40 hg40 ?_
      refine r_aload_n dX9_keep_41 rfl 0 rfl (nl rfl) ?_
      refine r_dup dX9_keep_42 (Nat.ne_of_beq_eq_false rfl) ?_
      refine r_get 9 3 (o := a0) (w := (0, h40 a0 3)) (T := TX9) (ref := "FollowingRefs$Text") rfl (by decide) rfl (by decide) inlX9 (wsl_12 _ (List.mem_of_getElem? (i := 6) rfl)) rfl dX9_keep_43 rfl ?_
      refine r_iconst dX9_keep_46 (by decide) ?_
      refine r_iadd dX9_keep_47 ?_
      obtain ⟨h48, hg48, hr⟩ := bnd hr
      refine r_put' 9 3 (t := 0) (ref := "FollowingRefs$Text") hg48 rfl tyX9 tyX9_ok nmX9 rfl (by decide) rfl (by decide) inlX9 (wsl_12 _ (List.mem_of_getElem? (i := 6) rfl)) rfl rfl (by decide +kernel) (by decide) rfl (Or.inl ⟨rfl, rfl⟩) dX9_keep_48 ?_
      obtain rfl := Option.some.inj hr
      exact r_vret dX9_keep_51 rfl (k0 _ hk) ⟨rfl, rfl⟩
end M_X9_keep
theorem oX9_keep {l : Launch} {D : va_G} {G : gG} {h : hH} {a0 a1 a2 a3 : Int} {r : hH} (hr : fX9_keep h a0 a1 a2 a3 = some r) : Ctr l D G true yX9_keep M_X9_keep [(19, a0), (0, a1), (0, a2), (1, a3)] h (none, r) :=
  Ctr_of (by decide) rfl (fun z => by cases z) (nl rfl) (fun {p e R s m args below meth c A H0} => by
    exact oX9_keep_b0 (K := fun z9 => z9 = r) (fun r9 z => by rw [z]) hr rfl)
/-! X9_keepRun -/
theorem dX9_keepRun_0 : decode cX9_keepRun 0 = .ok (.iconst 0, 1) := by decide +kernel
theorem dX9_keepRun_1 : decode cX9_keepRun 1 = .ok (.istore_n 2, 1) := by decide +kernel
theorem dX9_keepRun_2 : decode cX9_keepRun 2 = .ok (.iconst 0, 1) := by decide +kernel
theorem dX9_keepRun_3 : decode cX9_keepRun 3 = .ok (.istore_n 3, 1) := by decide +kernel
theorem dX9_keepRun_4 : decode cX9_keepRun 4 = .ok (.lconst 0, 1) := by decide +kernel
theorem dX9_keepRun_5 : decode cX9_keepRun 5 = .ok (.lstore 4, 2) := by decide +kernel
theorem dX9_keepRun_7 : decode cX9_keepRun 7 = .ok (.iconst 0, 1) := by decide +kernel
theorem dX9_keepRun_8 : decode cX9_keepRun 8 = .ok (.istore 6, 2) := by decide +kernel
theorem dX9_keepRun_10 : decode cX9_keepRun 10 = .ok (.iload_n 1, 1) := by decide +kernel
theorem dX9_keepRun_11 : decode cX9_keepRun 11 = .ok (.istore 7, 2) := by decide +kernel
theorem dX9_keepRun_13 : decode cX9_keepRun 13 = .ok (.iload 7, 2) := by decide +kernel
theorem dX9_keepRun_15 : decode cX9_keepRun 15 = .ok (.aload_n 0, 1) := by decide +kernel
theorem dX9_keepRun_16 : decode cX9_keepRun 16 = .ok (.getfield 19, 3) := by decide +kernel
theorem dX9_keepRun_19 : decode cX9_keepRun 19 = .ok (.if_icmp .ge 88, 3) := by decide +kernel
theorem dX9_keepRun_22 : decode cX9_keepRun 22 = .ok (.aload_n 0, 1) := by decide +kernel
theorem dX9_keepRun_23 : decode cX9_keepRun 23 = .ok (.iload 7, 2) := by decide +kernel
theorem dX9_keepRun_25 : decode cX9_keepRun 25 = .ok (.invokevirtual 38, 3) := by decide +kernel
theorem dX9_keepRun_28 : decode cX9_keepRun 28 = .ok (.invokestatic 42, 3) := by decide +kernel
theorem dX9_keepRun_31 : decode cX9_keepRun 31 = .ok (.ifCond .ne 15, 3) := by decide +kernel
theorem dX9_keepRun_34 : decode cX9_keepRun 34 = .ok (.aload_n 0, 1) := by decide +kernel
theorem dX9_keepRun_35 : decode cX9_keepRun 35 = .ok (.iload 7, 2) := by decide +kernel
theorem dX9_keepRun_37 : decode cX9_keepRun 37 = .ok (.invokevirtual 38, 3) := by decide +kernel
theorem dX9_keepRun_40 : decode cX9_keepRun 40 = .ok (.invokestatic 46, 3) := by decide +kernel
theorem dX9_keepRun_43 : decode cX9_keepRun 43 = .ok (.ifCond .eq 64, 3) := by decide +kernel
theorem dX9_keepRun_46 : decode cX9_keepRun 46 = .ok (.aload_n 0, 1) := by decide +kernel
theorem dX9_keepRun_47 : decode cX9_keepRun 47 = .ok (.iload 7, 2) := by decide +kernel
theorem dX9_keepRun_49 : decode cX9_keepRun 49 = .ok (.invokevirtual 38, 3) := by decide +kernel
theorem dX9_keepRun_52 : decode cX9_keepRun 52 = .ok (.istore 8, 2) := by decide +kernel
theorem dX9_keepRun_54 : decode cX9_keepRun 54 = .ok (.iload 8, 2) := by decide +kernel
theorem dX9_keepRun_56 : decode cX9_keepRun 56 = .ok (.invokestatic 42, 3) := by decide +kernel
theorem dX9_keepRun_59 : decode cX9_keepRun 59 = .ok (.ifCond .eq 26, 3) := by decide +kernel
theorem dX9_keepRun_62 : decode cX9_keepRun 62 = .ok (.iinc 2 1, 3) := by decide +kernel
theorem dX9_keepRun_65 : decode cX9_keepRun 65 = .ok (.lload 4, 2) := by decide +kernel
theorem dX9_keepRun_67 : decode cX9_keepRun 67 = .ok (.ldc2_w 68, 3) := by decide +kernel
theorem dX9_keepRun_70 : decode cX9_keepRun 70 = .ok (.lmul, 1) := by decide +kernel
theorem dX9_keepRun_71 : decode cX9_keepRun 71 = .ok (.iload 8, 2) := by decide +kernel
theorem dX9_keepRun_73 : decode cX9_keepRun 73 = .ok (.bipush 97, 2) := by decide +kernel
theorem dX9_keepRun_75 : decode cX9_keepRun 75 = .ok (.isub, 1) := by decide +kernel
theorem dX9_keepRun_76 : decode cX9_keepRun 76 = .ok (.iconst 1, 1) := by decide +kernel
theorem dX9_keepRun_77 : decode cX9_keepRun 77 = .ok (.iadd, 1) := by decide +kernel
theorem dX9_keepRun_78 : decode cX9_keepRun 78 = .ok (.i2l, 1) := by decide +kernel
theorem dX9_keepRun_79 : decode cX9_keepRun 79 = .ok (.ladd, 1) := by decide +kernel
theorem dX9_keepRun_80 : decode cX9_keepRun 80 = .ok (.lstore 4, 2) := by decide +kernel
theorem dX9_keepRun_82 : decode cX9_keepRun 82 = .ok (.goto 19, 3) := by decide +kernel
theorem dX9_keepRun_85 : decode cX9_keepRun 85 = .ok (.iinc 3 1, 3) := by decide +kernel
theorem dX9_keepRun_88 : decode cX9_keepRun 88 = .ok (.iload 6, 2) := by decide +kernel
theorem dX9_keepRun_90 : decode cX9_keepRun 90 = .ok (.bipush 10, 2) := by decide +kernel
theorem dX9_keepRun_92 : decode cX9_keepRun 92 = .ok (.imul, 1) := by decide +kernel
theorem dX9_keepRun_93 : decode cX9_keepRun 93 = .ok (.iload 8, 2) := by decide +kernel
theorem dX9_keepRun_95 : decode cX9_keepRun 95 = .ok (.bipush 48, 2) := by decide +kernel
theorem dX9_keepRun_97 : decode cX9_keepRun 97 = .ok (.isub, 1) := by decide +kernel
theorem dX9_keepRun_98 : decode cX9_keepRun 98 = .ok (.iadd, 1) := by decide +kernel
theorem dX9_keepRun_99 : decode cX9_keepRun 99 = .ok (.istore 6, 2) := by decide +kernel
theorem dX9_keepRun_101 : decode cX9_keepRun 101 = .ok (.iinc 7 1, 3) := by decide +kernel
theorem dX9_keepRun_104 : decode cX9_keepRun 104 = .ok (.goto (-91), 3) := by decide +kernel
theorem dX9_keepRun_107 : decode cX9_keepRun 107 = .ok (.iload_n 3, 1) := by decide +kernel
theorem dX9_keepRun_108 : decode cX9_keepRun 108 = .ok (.ifCond .ne 24, 3) := by decide +kernel
theorem dX9_keepRun_111 : decode cX9_keepRun 111 = .ok (.iload_n 2, 1) := by decide +kernel
theorem dX9_keepRun_112 : decode cX9_keepRun 112 = .ok (.bipush 7, 2) := by decide +kernel
theorem dX9_keepRun_114 : decode cX9_keepRun 114 = .ok (.if_icmp .gt 18, 3) := by decide +kernel
theorem dX9_keepRun_117 : decode cX9_keepRun 117 = .ok (.aload_n 0, 1) := by decide +kernel
theorem dX9_keepRun_118 : decode cX9_keepRun 118 = .ok (.lload 4, 2) := by decide +kernel
theorem dX9_keepRun_120 : decode cX9_keepRun 120 = .ok (.invokestatic 70, 3) := by decide +kernel
theorem dX9_keepRun_123 : decode cX9_keepRun 123 = .ok (.iload_n 1, 1) := by decide +kernel
theorem dX9_keepRun_124 : decode cX9_keepRun 124 = .ok (.lload 4, 2) := by decide +kernel
theorem dX9_keepRun_126 : decode cX9_keepRun 126 = .ok (.invokevirtual 58, 3) := by decide +kernel
theorem dX9_keepRun_129 : decode cX9_keepRun 129 = .ok (.goto 31, 3) := by decide +kernel
theorem dX9_keepRun_132 : decode cX9_keepRun 132 = .ok (.iload_n 2, 1) := by decide +kernel
theorem dX9_keepRun_133 : decode cX9_keepRun 133 = .ok (.ifCond .ne 20, 3) := by decide +kernel
theorem dX9_keepRun_136 : decode cX9_keepRun 136 = .ok (.iload_n 3, 1) := by decide +kernel
theorem dX9_keepRun_137 : decode cX9_keepRun 137 = .ok (.iconst 3, 1) := by decide +kernel
theorem dX9_keepRun_138 : decode cX9_keepRun 138 = .ok (.if_icmp .gt 15, 3) := by decide +kernel
theorem dX9_keepRun_141 : decode cX9_keepRun 141 = .ok (.aload_n 0, 1) := by decide +kernel
theorem dX9_keepRun_142 : decode cX9_keepRun 142 = .ok (.iconst 3, 1) := by decide +kernel
theorem dX9_keepRun_143 : decode cX9_keepRun 143 = .ok (.iload_n 1, 1) := by decide +kernel
theorem dX9_keepRun_144 : decode cX9_keepRun 144 = .ok (.iload 6, 2) := by decide +kernel
theorem dX9_keepRun_146 : decode cX9_keepRun 146 = .ok (.i2l, 1) := by decide +kernel
theorem dX9_keepRun_147 : decode cX9_keepRun 147 = .ok (.invokevirtual 58, 3) := by decide +kernel
theorem dX9_keepRun_150 : decode cX9_keepRun 150 = .ok (.goto 10, 3) := by decide +kernel
theorem dX9_keepRun_153 : decode cX9_keepRun 153 = .ok (.aload_n 0, 1) := by decide +kernel
theorem dX9_keepRun_154 : decode cX9_keepRun 154 = .ok (.iconst 2, 1) := by decide +kernel
theorem dX9_keepRun_155 : decode cX9_keepRun 155 = .ok (.iload_n 1, 1) := by decide +kernel
theorem dX9_keepRun_156 : decode cX9_keepRun 156 = .ok (.lconst 0, 1) := by decide +kernel
theorem dX9_keepRun_157 : decode cX9_keepRun 157 = .ok (.invokevirtual 58, 3) := by decide +kernel
theorem dX9_keepRun_160 : decode cX9_keepRun 160 = .ok (.iload 7, 2) := by decide +kernel
theorem dX9_keepRun_162 : decode cX9_keepRun 162 = .ok (.ireturn, 1) := by decide +kernel
abbrev M_X9_keepRun : mM := (cX9_keepRun, 9, RX9, some .int, false, 5, 111, 0, 0)
theorem gX9_keepRun : cI yX9_keepRun M_X9_keepRun 1 := ⟨(wsl_12 _ (List.mem_of_getElem? (i := 23) rfl)), (wsl_13 _ (List.mem_of_getElem? (i := 0) rfl)), (wsl_1 _ (List.mem_of_getElem? (i := 15) rfl)), (wsl_13 _ (List.mem_of_getElem? (i := 1) rfl)), by decide +kernel⟩
noncomputable def fX9_keepRun_b46 (h : hH) (a0 a1 l2 l3 l4 l6 l7 : Int) : Option ((Int × Int × Int × Int × Int) ⊕ (Int × hH)) :=
  (fX9_byteIn h a0 l7).bind fun r49 =>
  (fX9_isLetter h r49).bind fun r56 =>
  if r56 = 0 then
    some (.inl (l2, w32 (l3 + 1), l4, w32 ((w32 (l6 * 10)) + (w32 (r49 - 48))), w32 (l7 + 1)))
  else
    some (.inl (w32 (l2 + 1), l3, w64 ((w64 (l4 * 32)) + (w32 ((w32 (r49 - 97)) + 1))), l6, w32 (l7 + 1)))
noncomputable def fX9_keepRun_b153 (h : hH) (a0 a1 l7 : Int) : Option (Int × hH) :=
  (fX9_keep h a0 2 a1 0).bind fun h157 =>
  some (l7, h157)
noncomputable def fX9_keepRun_b132 (h : hH) (a0 a1 l2 l3 l6 l7 : Int) : Option (Int × hH) :=
  if l2 = 0 then
    if 3 < l3 then
      fX9_keepRun_b153 h a0 a1 l7
    else
      (fX9_keep h a0 3 a1 l6).bind fun h147 =>
      some (l7, h147)
  else
    fX9_keepRun_b153 h a0 a1 l7
noncomputable def fX9_keepRun_b107 (h : hH) (a0 a1 l2 l3 l4 l6 l7 : Int) : Option (Int × hH) :=
  if l3 = 0 then
    if 7 < l2 then
      fX9_keepRun_b132 h a0 a1 l2 l3 l6 l7
    else
      (fX9_kindOfWord h l4).bind fun r120 =>
      (fX9_keep h a0 r120 a1 l4).bind fun h126 =>
      some (l7, h126)
  else
    fX9_keepRun_b132 h a0 a1 l2 l3 l6 l7
noncomputable def fX9_keepRun_s13 (h : hH) (a0 a1 : Int) : Int × Int × Int × Int × Int → Option ((Int × Int × Int × Int × Int) ⊕ (Int × hH)) := fun (l2, l3, l4, l6, l7) =>
  if l7 < h a0 1 then
    (fX9_byteIn h a0 l7).bind fun r25 =>
    (fX9_isLetter h r25).bind fun r28 =>
    if r28 = 0 then
      (fX9_byteIn h a0 l7).bind fun r37 =>
      (fX9_isDigit h r37).bind fun r40 =>
      if r40 = 0 then
        (fX9_keepRun_b107 h a0 a1 l2 l3 l4 l6 l7).map (fun z9 => .inr (z9))
      else
        fX9_keepRun_b46 h a0 a1 l2 l3 l4 l6 l7
    else
      fX9_keepRun_b46 h a0 a1 l2 l3 l4 l6 l7
  else
    (fX9_keepRun_b107 h a0 a1 l2 l3 l4 l6 l7).map (fun z9 => .inr (z9))
noncomputable def fX9_keepRun (h : hH) (a0 a1 : Int) : Option (Int × hH) :=
  lpO (fX9_keepRun_s13 h a0 a1) (0, 0, 0, 0, a1)
section M_X9_keepRun
variable {p : Program} {l : Launch} {e : Env} {R : Room} {s : State} {m : MethodId} {args : Array Value} {below : List Frame} {meth : Method} {c : Code} {D : va_G} {G : gG} {A : Nat → Prop} {H0 : Heap} {n0 : Int} {x : Option vV × hH} {h : hH}
set_option maxRecDepth 100000 in
set_option maxHeartbeats 4000000 in
theorem oX9_keepRun_b46 {a0 a1 l2 l3 l4 l6 l7 : Int} {K : (Int × Int × Int × Int × Int) ⊕ (Int × hH) → Prop} (k0 : ∀ r, K (.inr (r)) → x = (some (0, r.1), r.2)) (k1 : ∀ (l2 : Int) (l3 : Int) (l4 : Int) (l6 : Int) (l7 : Int), K (.inl (l2, l3, l4, l6, l7)) → Wq p l e R s m args below meth c D G A H0 true n0 M_X9_keepRun x 0 0 13 [(0, (19, a0)), (1, (0, a1)), (2, (0, l2)), (3, (0, l3)), (4, (1, l4)), (6, (0, l6)), (7, (0, l7))] [] h) {r : (Int × Int × Int × Int × Int) ⊕ (Int × hH)} (hr : fX9_keepRun_b46 h a0 a1 l2 l3 l4 l6 l7 = some r) (hk : K r) : Wq p l e R s m args below meth c D G A H0 true n0 M_X9_keepRun x 0 0 46 [(0, (19, a0)), (1, (0, a1)), (2, (0, l2)), (3, (0, l3)), (4, (1, l4)), (6, (0, l6)), (7, (0, l7))] [] h := by
  unfold fX9_keepRun_b46 at hr
  refine r_aload_n dX9_keepRun_46 rfl 0 rfl (nl rfl) ?_
  refine r_iload dX9_keepRun_47 6 rfl (Or.inl rfl) ?_
  obtain ⟨r49, hg49, hr⟩ := bnd hr
  refine k_V (ci := 9) (o := a0) (T := TX9) (as := [(0, l7)]) (rest := []) (X := (some (0, r49), h)) (oX9_byteIn hg49) gX9_byteIn rfl (by decide) rfl (wsl_12 _ (List.mem_of_getElem? (i := 12) rfl)) rfl dX9_keepRun_49 rfl ?_
  refine r_istore dX9_keepRun_52 (Or.inl rfl) (by decide) (lv' := [(8, (0, r49)), (0, (19, a0)), (1, (0, a1)), (2, (0, l2)), (3, (0, l3)), (4, (1, l4)), (6, (0, l6)), (7, (0, l7))]) rfl ?_
  refine r_iload dX9_keepRun_54 0 rfl (Or.inl rfl) ?_
  obtain ⟨r56, hg56, hr⟩ := bnd hr
  refine k_S (as := [(0, r49)]) (rest := []) (X := (some (2, r56), h)) (oX9_isLetter hg56) gX9_isLetter rfl (wsl_12 _ (List.mem_of_getElem? (i := 16) rfl)) rfl dX9_keepRun_56 rfl ?_
  refine r_scast 0 (v := (2, r56)) (w := (0, r56)) rfl zc hTz (st' := [(0, r56)]) rfl ?_
  refine r_if_eq dX9_keepRun_59 (tgt := 85) (by decide) (fun hc => ?_) (fun hc => ?_)
  · have hr := ifp hr hc
    refine r_iinc (k := 4) (v := l3) dX9_keepRun_85 rfl (by decide) (lv' := [(3, (0, w32 (l3 + 1))), (8, (0, r49)), (0, (19, a0)), (1, (0, a1)), (2, (0, l2)), (4, (1, l4)), (6, (0, l6)), (7, (0, l7))]) rfl ?_
    refine r_iload dX9_keepRun_88 6 rfl (Or.inl rfl) ?_
    refine r_bipush dX9_keepRun_90 (by decide) (by decide) ?_
    refine r_imul dX9_keepRun_92 ?_
    refine r_iload dX9_keepRun_93 1 rfl (Or.inl rfl) ?_
    refine r_bipush dX9_keepRun_95 (by decide) (by decide) ?_
    refine r_isub dX9_keepRun_97 ?_
    refine r_iadd dX9_keepRun_98 ?_
    refine r_istore dX9_keepRun_99 (Or.inl rfl) (by decide) (lv' := [(6, (0, w32 ((w32 (l6 * 10)) + (w32 (r49 - 48))))), (3, (0, w32 (l3 + 1))), (8, (0, r49)), (0, (19, a0)), (1, (0, a1)), (2, (0, l2)), (4, (1, l4)), (7, (0, l7))]) rfl ?_
    refine r_iinc (k := 7) (v := l7) dX9_keepRun_101 rfl (by decide) (lv' := [(7, (0, w32 (l7 + 1))), (6, (0, w32 ((w32 (l6 * 10)) + (w32 (r49 - 48))))), (3, (0, w32 (l3 + 1))), (8, (0, r49)), (0, (19, a0)), (1, (0, a1)), (2, (0, l2)), (4, (1, l4))]) rfl ?_
    refine r_goto dX9_keepRun_104 (tgt := 13) (by decide) ?_
    refine r_sub [4, 5, 6, 2, 7, 1, 0] (lv' := [(0, (19, a0)), (1, (0, a1)), (2, (0, l2)), (3, (0, w32 (l3 + 1))), (4, (1, l4)), (6, (0, w32 ((w32 (l6 * 10)) + (w32 (r49 - 48))))), (7, (0, w32 (l7 + 1)))]) rfl ?_
    obtain rfl := Option.some.inj hr
    exact k1 _ _ _ _ _ hk
  · have hr := ifn hr hc
    refine r_iinc (k := 3) (v := l2) dX9_keepRun_62 rfl (by decide) (lv' := [(2, (0, w32 (l2 + 1))), (8, (0, r49)), (0, (19, a0)), (1, (0, a1)), (3, (0, l3)), (4, (1, l4)), (6, (0, l6)), (7, (0, l7))]) rfl ?_
    refine r_lload dX9_keepRun_65 5 rfl ?_
    refine r_ldc2' (v := 32) dX9_keepRun_67 (by decide) (wsl_13 _ (List.mem_of_getElem? (i := 2) rfl)) ?_
    refine r_lmul dX9_keepRun_70 ?_
    refine r_iload dX9_keepRun_71 1 rfl (Or.inl rfl) ?_
    refine r_bipush dX9_keepRun_73 (by decide) (by decide) ?_
    refine r_isub dX9_keepRun_75 ?_
    refine r_iconst dX9_keepRun_76 (by decide) ?_
    refine r_iadd dX9_keepRun_77 ?_
    refine r_i2l dX9_keepRun_78 ?_
    refine r_ladd dX9_keepRun_79 ?_
    refine r_lstore dX9_keepRun_80 (by decide) (lv' := [(4, (1, w64 ((w64 (l4 * 32)) + (w32 ((w32 (r49 - 97)) + 1))))), (2, (0, w32 (l2 + 1))), (8, (0, r49)), (0, (19, a0)), (1, (0, a1)), (3, (0, l3)), (6, (0, l6)), (7, (0, l7))]) rfl ?_
    refine r_goto dX9_keepRun_82 (tgt := 101) (by decide) ?_
    refine r_iinc (k := 7) (v := l7) dX9_keepRun_101 rfl (by decide) (lv' := [(7, (0, w32 (l7 + 1))), (4, (1, w64 ((w64 (l4 * 32)) + (w32 ((w32 (r49 - 97)) + 1))))), (2, (0, w32 (l2 + 1))), (8, (0, r49)), (0, (19, a0)), (1, (0, a1)), (3, (0, l3)), (6, (0, l6))]) rfl ?_
    refine r_goto dX9_keepRun_104 (tgt := 13) (by decide) ?_
    refine r_sub [4, 5, 2, 6, 1, 7, 0] (lv' := [(0, (19, a0)), (1, (0, a1)), (2, (0, w32 (l2 + 1))), (3, (0, l3)), (4, (1, w64 ((w64 (l4 * 32)) + (w32 ((w32 (r49 - 97)) + 1))))), (6, (0, l6)), (7, (0, w32 (l7 + 1)))]) rfl ?_
    obtain rfl := Option.some.inj hr
    exact k1 _ _ _ _ _ hk
set_option maxRecDepth 100000 in
set_option maxHeartbeats 4000000 in
theorem oX9_keepRun_b153 {a0 a1 l7 : Int} {K : Int × hH → Prop} (k0 : ∀ r, K (r) → x = (some (0, r.1), r.2)) {r : Int × hH} (hr : fX9_keepRun_b153 h a0 a1 l7 = some r) (hk : K r) : Wq p l e R s m args below meth c D G A H0 true n0 M_X9_keepRun x 0 0 153 [(0, (19, a0)), (1, (0, a1)), (7, (0, l7))] [] h := by
  unfold fX9_keepRun_b153 at hr
  refine r_aload_n dX9_keepRun_153 rfl 0 rfl (nl rfl) ?_
  refine r_iconst dX9_keepRun_154 (by decide) ?_
  refine r_iload_n dX9_keepRun_155 rfl 1 rfl (Or.inl rfl) ?_
  refine r_lconst (v := 0) dX9_keepRun_156 (by decide) (by decide) ?_
  obtain ⟨h157, hg157, hr⟩ := bnd hr
  refine k_V (ci := 9) (o := a0) (T := TX9) (as := [(0, 2), (0, a1), (1, 0)]) (rest := []) (X := (none, h157)) (oX9_keep hg157) gX9_keep rfl (by decide) rfl (wsl_15 _ (List.mem_of_getElem? (i := 7) rfl)) rfl dX9_keepRun_157 rfl ?_
  refine r_iload dX9_keepRun_160 2 rfl (Or.inl rfl) ?_
  obtain rfl := Option.some.inj hr
  exact r_ret dX9_keepRun_162 rfl (Or.inl ⟨rfl, rfl⟩) (k0 _ hk) ⟨rfl, rfl⟩
set_option maxRecDepth 100000 in
set_option maxHeartbeats 4000000 in
theorem oX9_keepRun_b132 {a0 a1 l2 l3 l6 l7 : Int} {K : Int × hH → Prop} (k0 : ∀ r, K (r) → x = (some (0, r.1), r.2)) {r : Int × hH} (hr : fX9_keepRun_b132 h a0 a1 l2 l3 l6 l7 = some r) (hk : K r) : Wq p l e R s m args below meth c D G A H0 true n0 M_X9_keepRun x 0 0 132 [(0, (19, a0)), (1, (0, a1)), (2, (0, l2)), (3, (0, l3)), (6, (0, l6)), (7, (0, l7))] [] h := by
  unfold fX9_keepRun_b132 at hr
  refine r_iload_n dX9_keepRun_132 rfl 2 rfl (Or.inl rfl) ?_
  refine r_if_ne dX9_keepRun_133 (tgt := 153) (by decide) (fun hc => ?_) (fun hc => ?_)
  · have hr := ifn hr hc
    refine r_sub [0, 1, 5] (lv' := [(0, (19, a0)), (1, (0, a1)), (7, (0, l7))]) rfl ?_
    exact oX9_keepRun_b153 (K := K) (fun r z => k0 r z) hr hk
  · have hr := ifp hr hc
    refine r_iload_n dX9_keepRun_136 rfl 3 rfl (Or.inl rfl) ?_
    refine r_iconst dX9_keepRun_137 (by decide) ?_
    refine r_icmp_gt dX9_keepRun_138 (tgt := 153) (by decide) (fun hc => ?_) (fun hc => ?_)
    · have hr := ifp hr hc
      refine r_sub [0, 1, 5] (lv' := [(0, (19, a0)), (1, (0, a1)), (7, (0, l7))]) rfl ?_
      exact oX9_keepRun_b153 (K := K) (fun r z => k0 r z) hr hk
    · have hr := ifn hr hc
      refine r_aload_n dX9_keepRun_141 rfl 0 rfl (nl rfl) ?_
      refine r_iconst dX9_keepRun_142 (by decide) ?_
      refine r_iload_n dX9_keepRun_143 rfl 1 rfl (Or.inl rfl) ?_
      refine r_iload dX9_keepRun_144 4 rfl (Or.inl rfl) ?_
      refine r_i2l dX9_keepRun_146 ?_
      obtain ⟨h147, hg147, hr⟩ := bnd hr
      refine k_V (ci := 9) (o := a0) (T := TX9) (as := [(0, 3), (0, a1), (1, l6)]) (rest := []) (X := (none, h147)) (oX9_keep hg147) gX9_keep rfl (by decide) rfl (wsl_15 _ (List.mem_of_getElem? (i := 7) rfl)) rfl dX9_keepRun_147 rfl ?_
      refine r_goto dX9_keepRun_150 (tgt := 160) (by decide) ?_
      refine r_iload dX9_keepRun_160 5 rfl (Or.inl rfl) ?_
      obtain rfl := Option.some.inj hr
      exact r_ret dX9_keepRun_162 rfl (Or.inl ⟨rfl, rfl⟩) (k0 _ hk) ⟨rfl, rfl⟩
set_option maxRecDepth 100000 in
set_option maxHeartbeats 4000000 in
theorem oX9_keepRun_b107 {a0 a1 l2 l3 l4 l6 l7 : Int} {K : Int × hH → Prop} (k0 : ∀ r, K (r) → x = (some (0, r.1), r.2)) {r : Int × hH} (hr : fX9_keepRun_b107 h a0 a1 l2 l3 l4 l6 l7 = some r) (hk : K r) : Wq p l e R s m args below meth c D G A H0 true n0 M_X9_keepRun x 0 0 107 [(0, (19, a0)), (1, (0, a1)), (2, (0, l2)), (3, (0, l3)), (4, (1, l4)), (6, (0, l6)), (7, (0, l7))] [] h := by
  unfold fX9_keepRun_b107 at hr
  refine r_iload_n dX9_keepRun_107 rfl 3 rfl (Or.inl rfl) ?_
  refine r_if_ne dX9_keepRun_108 (tgt := 132) (by decide) (fun hc => ?_) (fun hc => ?_)
  · have hr := ifn hr hc
    refine r_sub [0, 1, 2, 3, 5, 6] (lv' := [(0, (19, a0)), (1, (0, a1)), (2, (0, l2)), (3, (0, l3)), (6, (0, l6)), (7, (0, l7))]) rfl ?_
    exact oX9_keepRun_b132 (K := K) (fun r z => k0 r z) hr hk
  · have hr := ifp hr hc
    refine r_iload_n dX9_keepRun_111 rfl 2 rfl (Or.inl rfl) ?_
    refine r_bipush dX9_keepRun_112 (by decide) (by decide) ?_
    refine r_icmp_gt dX9_keepRun_114 (tgt := 132) (by decide) (fun hc => ?_) (fun hc => ?_)
    · have hr := ifp hr hc
      refine r_sub [0, 1, 2, 3, 5, 6] (lv' := [(0, (19, a0)), (1, (0, a1)), (2, (0, l2)), (3, (0, l3)), (6, (0, l6)), (7, (0, l7))]) rfl ?_
      exact oX9_keepRun_b132 (K := K) (fun r z => k0 r z) hr hk
    · have hr := ifn hr hc
      refine r_aload_n dX9_keepRun_117 rfl 0 rfl (nl rfl) ?_
      refine r_lload dX9_keepRun_118 4 rfl ?_
      obtain ⟨r120, hg120, hr⟩ := bnd hr
      refine k_S (as := [(1, l4)]) (rest := [(19, a0)]) (X := (some (0, r120), h)) (oX9_kindOfWord hg120) gX9_kindOfWord rfl (wsl_13 _ (List.mem_of_getElem? (i := 3) rfl)) rfl dX9_keepRun_120 rfl ?_
      refine r_iload_n dX9_keepRun_123 rfl 1 rfl (Or.inl rfl) ?_
      refine r_lload dX9_keepRun_124 4 rfl ?_
      obtain ⟨h126, hg126, hr⟩ := bnd hr
      refine k_V (ci := 9) (o := a0) (T := TX9) (as := [(0, r120), (0, a1), (1, l4)]) (rest := []) (X := (none, h126)) (oX9_keep hg126) gX9_keep rfl (by decide) rfl (wsl_15 _ (List.mem_of_getElem? (i := 7) rfl)) rfl dX9_keepRun_126 rfl ?_
      refine r_goto dX9_keepRun_129 (tgt := 160) (by decide) ?_
      refine r_iload dX9_keepRun_160 6 rfl (Or.inl rfl) ?_
      obtain rfl := Option.some.inj hr
      exact r_ret dX9_keepRun_162 rfl (Or.inl ⟨rfl, rfl⟩) (k0 _ hk) ⟨rfl, rfl⟩
set_option maxRecDepth 100000 in
set_option maxHeartbeats 4000000 in
theorem oX9_keepRun_s13 {a0 a1 l2 l3 l4 l6 l7 : Int} {K : (Int × Int × Int × Int × Int) ⊕ (Int × hH) → Prop} (k0 : ∀ r, K (.inr (r)) → x = (some (0, r.1), r.2)) (k1 : ∀ (l2 : Int) (l3 : Int) (l4 : Int) (l6 : Int) (l7 : Int), K (.inl (l2, l3, l4, l6, l7)) → Wq p l e R s m args below meth c D G A H0 true n0 M_X9_keepRun x 0 0 13 [(0, (19, a0)), (1, (0, a1)), (2, (0, l2)), (3, (0, l3)), (4, (1, l4)), (6, (0, l6)), (7, (0, l7))] [] h) {r : (Int × Int × Int × Int × Int) ⊕ (Int × hH)} (hr : fX9_keepRun_s13 h a0 a1 (l2, l3, l4, l6, l7) = some r) (hk : K r) : Wq p l e R s m args below meth c D G A H0 true n0 M_X9_keepRun x 0 0 13 [(0, (19, a0)), (1, (0, a1)), (2, (0, l2)), (3, (0, l3)), (4, (1, l4)), (6, (0, l6)), (7, (0, l7))] [] h := by
  unfold fX9_keepRun_s13 at hr
  refine r_iload dX9_keepRun_13 6 rfl (Or.inl rfl) ?_
  refine r_aload_n dX9_keepRun_15 rfl 0 rfl (nl rfl) ?_
  refine r_get 9 1 (o := a0) (w := (0, h a0 1)) (T := TX9) (ref := "FollowingRefs$Text") rfl (by decide) rfl (by decide) inlX9 (wsl_10 _ (List.mem_of_getElem? (i := 6) rfl)) rfl dX9_keepRun_16 rfl ?_
  refine r_icmp_ge dX9_keepRun_19 (tgt := 107) (by decide) (fun hc => ?_) (fun hc => ?_)
  · have hr := ifn hr hc
    obtain ⟨r9, hr9, rfl⟩ := mpp hr
    exact oX9_keepRun_b107 (K := fun z9 => K (.inr (z9))) (fun r z => k0 r z) hr9 hk
  · have hr := ifp hr hc
    refine r_aload_n dX9_keepRun_22 rfl 0 rfl (nl rfl) ?_
    refine r_iload dX9_keepRun_23 6 rfl (Or.inl rfl) ?_
    obtain ⟨r25, hg25, hr⟩ := bnd hr
    refine k_V (ci := 9) (o := a0) (T := TX9) (as := [(0, l7)]) (rest := []) (X := (some (0, r25), h)) (oX9_byteIn hg25) gX9_byteIn rfl (by decide) rfl (wsl_12 _ (List.mem_of_getElem? (i := 12) rfl)) rfl dX9_keepRun_25 rfl ?_
    obtain ⟨r28, hg28, hr⟩ := bnd hr
    refine k_S (as := [(0, r25)]) (rest := []) (X := (some (2, r28), h)) (oX9_isLetter hg28) gX9_isLetter rfl (wsl_12 _ (List.mem_of_getElem? (i := 16) rfl)) rfl dX9_keepRun_28 rfl ?_
    refine r_scast 0 (v := (2, r28)) (w := (0, r28)) rfl zc hTz (st' := [(0, r28)]) rfl ?_
    refine r_if_ne dX9_keepRun_31 (tgt := 46) (by decide) (fun hc => ?_) (fun hc => ?_)
    · have hr := ifn hr hc
      exact oX9_keepRun_b46 (K := K) (fun r z => k0 r z) (fun _ _ _ _ _ z => k1 _ _ _ _ _ z) hr hk
    · have hr := ifp hr hc
      refine r_aload_n dX9_keepRun_34 rfl 0 rfl (nl rfl) ?_
      refine r_iload dX9_keepRun_35 6 rfl (Or.inl rfl) ?_
      obtain ⟨r37, hg37, hr⟩ := bnd hr
      refine k_V (ci := 9) (o := a0) (T := TX9) (as := [(0, l7)]) (rest := []) (X := (some (0, r37), h)) (oX9_byteIn hg37) gX9_byteIn rfl (by decide) rfl (wsl_12 _ (List.mem_of_getElem? (i := 12) rfl)) rfl dX9_keepRun_37 rfl ?_
      obtain ⟨r40, hg40, hr⟩ := bnd hr
      refine k_S (as := [(0, r37)]) (rest := []) (X := (some (2, r40), h)) (oX9_isDigit hg40) gX9_isDigit rfl (wsl_12 _ (List.mem_of_getElem? (i := 19) rfl)) rfl dX9_keepRun_40 rfl ?_
      refine r_scast 0 (v := (2, r40)) (w := (0, r40)) rfl zc hTz (st' := [(0, r40)]) rfl ?_
      refine r_if_eq dX9_keepRun_43 (tgt := 107) (by decide) (fun hc => ?_) (fun hc => ?_)
      · have hr := ifp hr hc
        obtain ⟨r9, hr9, rfl⟩ := mpp hr
        exact oX9_keepRun_b107 (K := fun z9 => K (.inr (z9))) (fun r z => k0 r z) hr9 hk
      · have hr := ifn hr hc
        exact oX9_keepRun_b46 (K := K) (fun r z => k0 r z) (fun _ _ _ _ _ z => k1 _ _ _ _ _ z) hr hk
set_option maxRecDepth 100000 in
set_option maxHeartbeats 4000000 in
theorem oX9_keepRun_b0 {a0 a1 : Int} {K : Int × hH → Prop} (k0 : ∀ r, K (r) → x = (some (0, r.1), r.2)) {r : Int × hH} (hr : fX9_keepRun h a0 a1 = some r) (hk : K r) : Wq p l e R s m args below meth c D G A H0 true n0 M_X9_keepRun x 0 0 0 [(0, (19, a0)), (1, (0, a1))] [] h := by
  unfold fX9_keepRun at hr
  refine r_iconst dX9_keepRun_0 (by decide) ?_
  refine r_istore_n dX9_keepRun_1 rfl (Or.inl rfl) (by decide) (lv' := [(2, (0, 0)), (0, (19, a0)), (1, (0, a1))]) rfl ?_
  refine r_iconst dX9_keepRun_2 (by decide) ?_
  refine r_istore_n dX9_keepRun_3 rfl (Or.inl rfl) (by decide) (lv' := [(3, (0, 0)), (2, (0, 0)), (0, (19, a0)), (1, (0, a1))]) rfl ?_
  refine r_lconst (v := 0) dX9_keepRun_4 (by decide) (by decide) ?_
  refine r_lstore dX9_keepRun_5 (by decide) (lv' := [(4, (1, 0)), (3, (0, 0)), (2, (0, 0)), (0, (19, a0)), (1, (0, a1))]) rfl ?_
  refine r_iconst dX9_keepRun_7 (by decide) ?_
  refine r_istore dX9_keepRun_8 (Or.inl rfl) (by decide) (lv' := [(6, (0, 0)), (4, (1, 0)), (3, (0, 0)), (2, (0, 0)), (0, (19, a0)), (1, (0, a1))]) rfl ?_
  refine r_iload_n dX9_keepRun_10 rfl 5 rfl (Or.inl rfl) ?_
  refine r_istore dX9_keepRun_11 (Or.inl rfl) (by decide) (lv' := [(7, (0, a1)), (6, (0, 0)), (4, (1, 0)), (3, (0, 0)), (2, (0, 0)), (0, (19, a0)), (1, (0, a1))]) rfl ?_
  refine r_sub [5, 6, 4, 3, 2, 1, 0] (lv' := [(0, (19, a0)), (1, (0, a1)), (2, (0, 0)), (3, (0, 0)), (4, (1, 0)), (6, (0, 0)), (7, (0, a1))]) rfl ?_
  exact lp_ok (w := fun (q : Int × Int × Int × Int × Int) => Wq p l e R s m args below meth c D G A H0 true n0 M_X9_keepRun x 0 0 13 [(0, (19, a0)), (1, (0, a1)), (2, (0, q.1)), (3, (0, q.2.1)), (4, (1, q.2.2.1)), (6, (0, q.2.2.2.1)), (7, (0, q.2.2.2.2))] [] (h)) (K := K) (fun ⟨q0, q1, q2, q3, q4⟩ r h1 h2 => oX9_keepRun_s13 (K := Sum.elim (fun (q : Int × Int × Int × Int × Int) => Wq p l e R s m args below meth c D G A H0 true n0 M_X9_keepRun x 0 0 13 [(0, (19, a0)), (1, (0, a1)), (2, (0, q.1)), (3, (0, q.2.1)), (4, (1, q.2.2.1)), (6, (0, q.2.2.2.1)), (7, (0, q.2.2.2.2))] [] (h)) (K)) (fun r z => k0 r z) (fun _ _ _ _ _ z => z) h1 h2) hr hk
end M_X9_keepRun
theorem oX9_keepRun {l : Launch} {D : va_G} {G : gG} {h : hH} {a0 a1 : Int} {r : Int × hH} (hr : fX9_keepRun h a0 a1 = some r) : Ctr l D G true yX9_keepRun M_X9_keepRun [(19, a0), (0, a1)] h (some (0, r.1), r.2) :=
  Ctr_of (by decide) rfl (fun z => by cases z) (nl rfl) (fun {p e R s m args below meth c A H0} => by
    exact oX9_keepRun_b0 (K := fun z9 => z9 = r) (fun r9 z => by rw [z]) hr rfl)
/-! X9_isBlank -/
theorem dX9_isBlank_0 : decode cX9_isBlank 0 = .ok (.iload_n 0, 1) := by decide +kernel
theorem dX9_isBlank_1 : decode cX9_isBlank 1 = .ok (.bipush 32, 2) := by decide +kernel
theorem dX9_isBlank_3 : decode cX9_isBlank 3 = .ok (.if_icmp .eq 9, 3) := by decide +kernel
theorem dX9_isBlank_6 : decode cX9_isBlank 6 = .ok (.iload_n 0, 1) := by decide +kernel
theorem dX9_isBlank_7 : decode cX9_isBlank 7 = .ok (.bipush 10, 2) := by decide +kernel
theorem dX9_isBlank_9 : decode cX9_isBlank 9 = .ok (.if_icmp .ne 7, 3) := by decide +kernel
theorem dX9_isBlank_12 : decode cX9_isBlank 12 = .ok (.iconst 1, 1) := by decide +kernel
theorem dX9_isBlank_13 : decode cX9_isBlank 13 = .ok (.goto 4, 3) := by decide +kernel
theorem dX9_isBlank_16 : decode cX9_isBlank 16 = .ok (.iconst 0, 1) := by decide +kernel
theorem dX9_isBlank_17 : decode cX9_isBlank 17 = .ok (.ireturn, 1) := by decide +kernel
abbrev M_X9_isBlank : mM := (cX9_isBlank, 1, RX9, some .boolean, false, 0, 0, 0, 0)
theorem gX9_isBlank : cS yX9_isBlank M_X9_isBlank 1 := ⟨(wsl_15 _ (List.mem_of_getElem? (i := 12) rfl)), (wsl_1 _ (List.mem_of_getElem? (i := 15) rfl)), (wsl_15 _ (List.mem_of_getElem? (i := 13) rfl)), by decide +kernel⟩
noncomputable def fX9_isBlank_b12 (h : hH) : Option (Int) :=
  some 1
noncomputable def fX9_isBlank (h : hH) (a0 : Int) : Option (Int) :=
  if a0 = 32 then
    fX9_isBlank_b12 h
  else
    if a0 = 10 then
      fX9_isBlank_b12 h
    else
      some 0
section M_X9_isBlank
variable {p : Program} {l : Launch} {e : Env} {R : Room} {s : State} {m : MethodId} {args : Array Value} {below : List Frame} {meth : Method} {c : Code} {D : va_G} {G : gG} {A : Nat → Prop} {H0 : Heap} {n0 : Int} {x : Option vV × hH} {h : hH}
set_option maxRecDepth 100000 in
set_option maxHeartbeats 4000000 in
theorem oX9_isBlank_b12 {K : Int → Prop} (k0 : ∀ r, K (r) → x = (some (2, r), h)) {r : Int} (hr : fX9_isBlank_b12 h  = some r) (hk : K r) : Wq p l e R s m args below meth c D G A H0 true n0 M_X9_isBlank x 0 0 12 [] [] h := by
  unfold fX9_isBlank_b12 at hr
  refine r_iconst dX9_isBlank_12 (by decide) ?_
  refine r_goto dX9_isBlank_13 (tgt := 17) (by decide) ?_
  refine r_scast 0 (v := (0, 1)) (w := (2, 1)) rfl cz (fun _ => Or.inr rfl) (st' := [(2, 1)]) rfl ?_
  obtain rfl := Option.some.inj hr
  exact r_ret dX9_isBlank_17 rfl (Or.inr ⟨rfl, rfl⟩) (k0 _ hk) ⟨rfl, rfl⟩
set_option maxRecDepth 100000 in
set_option maxHeartbeats 4000000 in
theorem oX9_isBlank_b0 {a0 : Int} {K : Int → Prop} (k0 : ∀ r, K (r) → x = (some (2, r), h)) {r : Int} (hr : fX9_isBlank h a0 = some r) (hk : K r) : Wq p l e R s m args below meth c D G A H0 true n0 M_X9_isBlank x 0 0 0 [(0, (0, a0))] [] h := by
  unfold fX9_isBlank at hr
  refine r_iload_n dX9_isBlank_0 rfl 0 rfl (Or.inl rfl) ?_
  refine r_bipush dX9_isBlank_1 (by decide) (by decide) ?_
  refine r_icmp_eq dX9_isBlank_3 (tgt := 12) (by decide) (fun hc => ?_) (fun hc => ?_)
  · have hr := ifp hr hc
    refine r_sub [] (lv' := []) rfl ?_
    exact oX9_isBlank_b12 (K := K) (fun r z => k0 r z) hr hk
  · have hr := ifn hr hc
    refine r_iload_n dX9_isBlank_6 rfl 0 rfl (Or.inl rfl) ?_
    refine r_bipush dX9_isBlank_7 (by decide) (by decide) ?_
    refine r_icmp_ne dX9_isBlank_9 (tgt := 16) (by decide) (fun hc => ?_) (fun hc => ?_)
    · have hr := ifn hr hc
      refine r_iconst dX9_isBlank_16 (by decide) ?_
      refine r_scast 0 (v := (0, 0)) (w := (2, 0)) rfl cz (fun _ => Or.inl rfl) (st' := [(2, 0)]) rfl ?_
      obtain rfl := Option.some.inj hr
      exact r_ret dX9_isBlank_17 rfl (Or.inr ⟨rfl, rfl⟩) (k0 _ hk) ⟨rfl, rfl⟩
    · have hr := ifp hr hc
      refine r_sub [] (lv' := []) rfl ?_
      exact oX9_isBlank_b12 (K := K) (fun r z => k0 r z) hr hk
end M_X9_isBlank
theorem oX9_isBlank {l : Launch} {D : va_G} {G : gG} {h : hH} {a0 : Int} {r : Int} (hr : fX9_isBlank h a0 = some r) : Ctr l D G true yX9_isBlank M_X9_isBlank [(0, a0)] h (some (2, r), h) :=
  Ctr_of (by decide) rfl (fun z => by cases z) (nl rfl) (fun {p e R s m args below meth c A H0} => by
    exact oX9_isBlank_b0 (K := fun z9 => z9 = r) (fun r9 z => by rw [z]) hr rfl)
/-! X9_isSign -/
theorem dX9_isSign_0 : decode cX9_isSign 0 = .ok (.iload_n 0, 1) := by decide +kernel
theorem dX9_isSign_1 : decode cX9_isSign 1 = .ok (.bipush 59, 2) := by decide +kernel
theorem dX9_isSign_3 : decode cX9_isSign 3 = .ok (.if_icmp .eq 33, 3) := by decide +kernel
theorem dX9_isSign_6 : decode cX9_isSign 6 = .ok (.iload_n 0, 1) := by decide +kernel
theorem dX9_isSign_7 : decode cX9_isSign 7 = .ok (.bipush 60, 2) := by decide +kernel
theorem dX9_isSign_9 : decode cX9_isSign 9 = .ok (.if_icmp .eq 27, 3) := by decide +kernel
theorem dX9_isSign_12 : decode cX9_isSign 12 = .ok (.iload_n 0, 1) := by decide +kernel
theorem dX9_isSign_13 : decode cX9_isSign 13 = .ok (.bipush 61, 2) := by decide +kernel
theorem dX9_isSign_15 : decode cX9_isSign 15 = .ok (.if_icmp .eq 21, 3) := by decide +kernel
theorem dX9_isSign_18 : decode cX9_isSign 18 = .ok (.iload_n 0, 1) := by decide +kernel
theorem dX9_isSign_19 : decode cX9_isSign 19 = .ok (.bipush 62, 2) := by decide +kernel
theorem dX9_isSign_21 : decode cX9_isSign 21 = .ok (.if_icmp .eq 15, 3) := by decide +kernel
theorem dX9_isSign_24 : decode cX9_isSign 24 = .ok (.iload_n 0, 1) := by decide +kernel
theorem dX9_isSign_25 : decode cX9_isSign 25 = .ok (.bipush 40, 2) := by decide +kernel
theorem dX9_isSign_27 : decode cX9_isSign 27 = .ok (.if_icmp .eq 9, 3) := by decide +kernel
theorem dX9_isSign_30 : decode cX9_isSign 30 = .ok (.iload_n 0, 1) := by decide +kernel
theorem dX9_isSign_31 : decode cX9_isSign 31 = .ok (.bipush 41, 2) := by decide +kernel
theorem dX9_isSign_33 : decode cX9_isSign 33 = .ok (.if_icmp .ne 7, 3) := by decide +kernel
theorem dX9_isSign_36 : decode cX9_isSign 36 = .ok (.iconst 1, 1) := by decide +kernel
theorem dX9_isSign_37 : decode cX9_isSign 37 = .ok (.goto 4, 3) := by decide +kernel
theorem dX9_isSign_40 : decode cX9_isSign 40 = .ok (.iconst 0, 1) := by decide +kernel
theorem dX9_isSign_41 : decode cX9_isSign 41 = .ok (.ireturn, 1) := by decide +kernel
abbrev M_X9_isSign : mM := (cX9_isSign, 1, RX9, some .boolean, false, 0, 0, 0, 0)
theorem gX9_isSign : cS yX9_isSign M_X9_isSign 1 := ⟨(wsl_15 _ (List.mem_of_getElem? (i := 15) rfl)), (wsl_1 _ (List.mem_of_getElem? (i := 15) rfl)), (wsl_15 _ (List.mem_of_getElem? (i := 16) rfl)), by decide +kernel⟩
noncomputable def fX9_isSign_b36 (h : hH) : Option (Int) :=
  some 1
noncomputable def fX9_isSign (h : hH) (a0 : Int) : Option (Int) :=
  if a0 = 59 then
    fX9_isSign_b36 h
  else
    if a0 = 60 then
      fX9_isSign_b36 h
    else
      if a0 = 61 then
        fX9_isSign_b36 h
      else
        if a0 = 62 then
          fX9_isSign_b36 h
        else
          if a0 = 40 then
            fX9_isSign_b36 h
          else
            if a0 = 41 then
              fX9_isSign_b36 h
            else
              some 0
section M_X9_isSign
variable {p : Program} {l : Launch} {e : Env} {R : Room} {s : State} {m : MethodId} {args : Array Value} {below : List Frame} {meth : Method} {c : Code} {D : va_G} {G : gG} {A : Nat → Prop} {H0 : Heap} {n0 : Int} {x : Option vV × hH} {h : hH}
set_option maxRecDepth 100000 in
set_option maxHeartbeats 4000000 in
theorem oX9_isSign_b36 {K : Int → Prop} (k0 : ∀ r, K (r) → x = (some (2, r), h)) {r : Int} (hr : fX9_isSign_b36 h  = some r) (hk : K r) : Wq p l e R s m args below meth c D G A H0 true n0 M_X9_isSign x 0 0 36 [] [] h := by
  unfold fX9_isSign_b36 at hr
  refine r_iconst dX9_isSign_36 (by decide) ?_
  refine r_goto dX9_isSign_37 (tgt := 41) (by decide) ?_
  refine r_scast 0 (v := (0, 1)) (w := (2, 1)) rfl cz (fun _ => Or.inr rfl) (st' := [(2, 1)]) rfl ?_
  obtain rfl := Option.some.inj hr
  exact r_ret dX9_isSign_41 rfl (Or.inr ⟨rfl, rfl⟩) (k0 _ hk) ⟨rfl, rfl⟩
set_option maxRecDepth 100000 in
set_option maxHeartbeats 4000000 in
theorem oX9_isSign_b0 {a0 : Int} {K : Int → Prop} (k0 : ∀ r, K (r) → x = (some (2, r), h)) {r : Int} (hr : fX9_isSign h a0 = some r) (hk : K r) : Wq p l e R s m args below meth c D G A H0 true n0 M_X9_isSign x 0 0 0 [(0, (0, a0))] [] h := by
  unfold fX9_isSign at hr
  refine r_iload_n dX9_isSign_0 rfl 0 rfl (Or.inl rfl) ?_
  refine r_bipush dX9_isSign_1 (by decide) (by decide) ?_
  refine r_icmp_eq dX9_isSign_3 (tgt := 36) (by decide) (fun hc => ?_) (fun hc => ?_)
  · have hr := ifp hr hc
    refine r_sub [] (lv' := []) rfl ?_
    exact oX9_isSign_b36 (K := K) (fun r z => k0 r z) hr hk
  · have hr := ifn hr hc
    refine r_iload_n dX9_isSign_6 rfl 0 rfl (Or.inl rfl) ?_
    refine r_bipush dX9_isSign_7 (by decide) (by decide) ?_
    refine r_icmp_eq dX9_isSign_9 (tgt := 36) (by decide) (fun hc => ?_) (fun hc => ?_)
    · have hr := ifp hr hc
      refine r_sub [] (lv' := []) rfl ?_
      exact oX9_isSign_b36 (K := K) (fun r z => k0 r z) hr hk
    · have hr := ifn hr hc
      refine r_iload_n dX9_isSign_12 rfl 0 rfl (Or.inl rfl) ?_
      refine r_bipush dX9_isSign_13 (by decide) (by decide) ?_
      refine r_icmp_eq dX9_isSign_15 (tgt := 36) (by decide) (fun hc => ?_) (fun hc => ?_)
      · have hr := ifp hr hc
        refine r_sub [] (lv' := []) rfl ?_
        exact oX9_isSign_b36 (K := K) (fun r z => k0 r z) hr hk
      · have hr := ifn hr hc
        refine r_iload_n dX9_isSign_18 rfl 0 rfl (Or.inl rfl) ?_
        refine r_bipush dX9_isSign_19 (by decide) (by decide) ?_
        refine r_icmp_eq dX9_isSign_21 (tgt := 36) (by decide) (fun hc => ?_) (fun hc => ?_)
        · have hr := ifp hr hc
          refine r_sub [] (lv' := []) rfl ?_
          exact oX9_isSign_b36 (K := K) (fun r z => k0 r z) hr hk
        · have hr := ifn hr hc
          refine r_iload_n dX9_isSign_24 rfl 0 rfl (Or.inl rfl) ?_
          refine r_bipush dX9_isSign_25 (by decide) (by decide) ?_
          refine r_icmp_eq dX9_isSign_27 (tgt := 36) (by decide) (fun hc => ?_) (fun hc => ?_)
          · have hr := ifp hr hc
            refine r_sub [] (lv' := []) rfl ?_
            exact oX9_isSign_b36 (K := K) (fun r z => k0 r z) hr hk
          · have hr := ifn hr hc
            refine r_iload_n dX9_isSign_30 rfl 0 rfl (Or.inl rfl) ?_
            refine r_bipush dX9_isSign_31 (by decide) (by decide) ?_
            refine r_icmp_ne dX9_isSign_33 (tgt := 40) (by decide) (fun hc => ?_) (fun hc => ?_)
            · have hr := ifn hr hc
              refine r_iconst dX9_isSign_40 (by decide) ?_
              refine r_scast 0 (v := (0, 0)) (w := (2, 0)) rfl cz (fun _ => Or.inl rfl) (st' := [(2, 0)]) rfl ?_
              obtain rfl := Option.some.inj hr
              exact r_ret dX9_isSign_41 rfl (Or.inr ⟨rfl, rfl⟩) (k0 _ hk) ⟨rfl, rfl⟩
            · have hr := ifp hr hc
              refine r_sub [] (lv' := []) rfl ?_
              exact oX9_isSign_b36 (K := K) (fun r z => k0 r z) hr hk
end M_X9_isSign
theorem oX9_isSign {l : Launch} {D : va_G} {G : gG} {h : hH} {a0 : Int} {r : Int} (hr : fX9_isSign h a0 = some r) : Ctr l D G true yX9_isSign M_X9_isSign [(0, a0)] h (some (2, r), h) :=
  Ctr_of (by decide) rfl (fun z => by cases z) (nl rfl) (fun {p e R s m args below meth c A H0} => by
    exact oX9_isSign_b0 (K := fun z9 => z9 = r) (fun r9 z => by rw [z]) hr rfl)
/-! X9_step -/
theorem dX9_step_0 : decode cX9_step 0 = .ok (.aload_n 0, 1) := by decide +kernel
theorem dX9_step_1 : decode cX9_step 1 = .ok (.getfield 62, 3) := by decide +kernel
theorem dX9_step_4 : decode cX9_step 4 = .ok (.ifCond .lt 77, 3) := by decide +kernel
theorem dX9_step_7 : decode cX9_step 7 = .ok (.aload_n 0, 1) := by decide +kernel
theorem dX9_step_8 : decode cX9_step 8 = .ok (.getfield 62, 3) := by decide +kernel
theorem dX9_step_11 : decode cX9_step 11 = .ok (.aload_n 0, 1) := by decide +kernel
theorem dX9_step_12 : decode cX9_step 12 = .ok (.getfield 29, 3) := by decide +kernel
theorem dX9_step_15 : decode cX9_step 15 = .ok (.if_icmp .ge 66, 3) := by decide +kernel
theorem dX9_step_18 : decode cX9_step 18 = .ok (.aload_n 0, 1) := by decide +kernel
theorem dX9_step_19 : decode cX9_step 19 = .ok (.getfield 62, 3) := by decide +kernel
theorem dX9_step_22 : decode cX9_step 22 = .ok (.aload_n 0, 1) := by decide +kernel
theorem dX9_step_23 : decode cX9_step 23 = .ok (.getfield 15, 3) := by decide +kernel
theorem dX9_step_26 : decode cX9_step 26 = .ok (.arraylength, 1) := by decide +kernel
theorem dX9_step_27 : decode cX9_step 27 = .ok (.if_icmp .ge 54, 3) := by decide +kernel
theorem dX9_step_30 : decode cX9_step 30 = .ok (.aload_n 0, 1) := by decide +kernel
theorem dX9_step_31 : decode cX9_step 31 = .ok (.getfield 15, 3) := by decide +kernel
theorem dX9_step_34 : decode cX9_step 34 = .ok (.aload_n 0, 1) := by decide +kernel
theorem dX9_step_35 : decode cX9_step 35 = .ok (.getfield 62, 3) := by decide +kernel
theorem dX9_step_38 : decode cX9_step 38 = .ok (.laload, 1) := by decide +kernel
theorem dX9_step_39 : decode cX9_step 39 = .ok (.lstore_n 1, 1) := by decide +kernel
theorem dX9_step_40 : decode cX9_step 40 = .ok (.aload_n 0, 1) := by decide +kernel
theorem dX9_step_41 : decode cX9_step 41 = .ok (.lload_n 1, 1) := by decide +kernel
theorem dX9_step_42 : decode cX9_step 42 = .ok (.ldc2_w 74, 3) := by decide +kernel
theorem dX9_step_45 : decode cX9_step 45 = .ok (.land, 1) := by decide +kernel
theorem dX9_step_46 : decode cX9_step 46 = .ok (.l2i, 1) := by decide +kernel
theorem dX9_step_47 : decode cX9_step 47 = .ok (.putfield 76, 3) := by decide +kernel
theorem dX9_step_50 : decode cX9_step 50 = .ok (.aload_n 0, 1) := by decide +kernel
theorem dX9_step_51 : decode cX9_step 51 = .ok (.lload_n 1, 1) := by decide +kernel
theorem dX9_step_52 : decode cX9_step 52 = .ok (.bipush 8, 2) := by decide +kernel
theorem dX9_step_54 : decode cX9_step 54 = .ok (.lushr, 1) := by decide +kernel
theorem dX9_step_55 : decode cX9_step 55 = .ok (.ldc2_w 79, 3) := by decide +kernel
theorem dX9_step_58 : decode cX9_step 58 = .ok (.land, 1) := by decide +kernel
theorem dX9_step_59 : decode cX9_step 59 = .ok (.l2i, 1) := by decide +kernel
theorem dX9_step_60 : decode cX9_step 60 = .ok (.putfield 81, 3) := by decide +kernel
theorem dX9_step_63 : decode cX9_step 63 = .ok (.aload_n 0, 1) := by decide +kernel
theorem dX9_step_64 : decode cX9_step 64 = .ok (.lload_n 1, 1) := by decide +kernel
theorem dX9_step_65 : decode cX9_step 65 = .ok (.bipush 20, 2) := by decide +kernel
theorem dX9_step_67 : decode cX9_step 67 = .ok (.lushr, 1) := by decide +kernel
theorem dX9_step_68 : decode cX9_step 68 = .ok (.putfield 84, 3) := by decide +kernel
theorem dX9_step_71 : decode cX9_step 71 = .ok (.aload_n 0, 1) := by decide +kernel
theorem dX9_step_72 : decode cX9_step 72 = .ok (.dup, 1) := by decide +kernel
theorem dX9_step_73 : decode cX9_step 73 = .ok (.getfield 62, 3) := by decide +kernel
theorem dX9_step_76 : decode cX9_step 76 = .ok (.iconst 1, 1) := by decide +kernel
theorem dX9_step_77 : decode cX9_step 77 = .ok (.iadd, 1) := by decide +kernel
theorem dX9_step_78 : decode cX9_step 78 = .ok (.putfield 62, 3) := by decide +kernel
theorem dX9_step_81 : decode cX9_step 81 = .ok (.return_, 1) := by decide +kernel
abbrev M_X9_step : mM := (cX9_step, 3, RX9, none, false, 0, 0, 0, 0)
theorem gX9_step : cI yX9_step M_X9_step 0 := ⟨(wsl_15 _ (List.mem_of_getElem? (i := 18) rfl)), (wsl_15 _ (List.mem_of_getElem? (i := 19) rfl)), (wsl_1 _ (List.mem_of_getElem? (i := 15) rfl)), (wsl_15 _ (List.mem_of_getElem? (i := 20) rfl)), by decide +kernel⟩
noncomputable def fX9_step (h : hH) (a0 : Int) : Option (hH) :=
  if h a0 4 < 0 then
    some h
  else
    if h a0 4 < h a0 3 then
      if h a0 4 < h (h a0 2) (-1) then
        (aget h (h a0 2) (h a0 4)).bind fun v38 =>
        (pput h a0 5 (w32 (landD v38 255))).bind fun h47 =>
        (pput h47 a0 6 (w32 (landD (lusD v38 8) 1023))).bind fun h60 =>
        (pput h60 a0 7 (lusD v38 20)).bind fun h68 =>
        (pput h68 a0 4 (w32 ((h68 a0 4) + 1))).bind fun h78 =>
        some h78
      else
        some h
    else
      some h
section M_X9_step
variable {p : Program} {l : Launch} {e : Env} {R : Room} {s : State} {m : MethodId} {args : Array Value} {below : List Frame} {meth : Method} {c : Code} {D : va_G} {G : gG} {A : Nat → Prop} {H0 : Heap} {n0 : Int} {x : Option vV × hH} {h : hH}
set_option maxRecDepth 100000 in
set_option maxHeartbeats 4000000 in
theorem oX9_step_b0 {a0 : Int} {K : hH → Prop} (k0 : ∀ r, K (r) → x = (none, r)) {r : hH} (hr : fX9_step h a0 = some r) (hk : K r) : Wq p l e R s m args below meth c D G A H0 true n0 M_X9_step x 0 0 0 [(0, (19, a0))] [] h := by
  unfold fX9_step at hr
  refine r_aload_n dX9_step_0 rfl 0 rfl (nl rfl) ?_
  refine r_get 9 4 (o := a0) (w := (0, h a0 4)) (T := TX9) (ref := "FollowingRefs$Text") rfl (by decide) rfl (by decide) inlX9 (wsl_12 _ (List.mem_of_getElem? (i := 11) rfl)) rfl dX9_step_1 rfl ?_
  refine r_if_lt dX9_step_4 (tgt := 81) (by decide) (fun hc => ?_) (fun hc => ?_)
  · have hr := ifp hr hc
    obtain rfl := Option.some.inj hr
    exact r_vret dX9_step_81 rfl (k0 _ hk) ⟨rfl, rfl⟩
  · have hr := ifn hr hc
    refine r_aload_n dX9_step_7 rfl 0 rfl (nl rfl) ?_
    refine r_get 9 4 (o := a0) (w := (0, h a0 4)) (T := TX9) (ref := "FollowingRefs$Text") rfl (by decide) rfl (by decide) inlX9 (wsl_12 _ (List.mem_of_getElem? (i := 11) rfl)) rfl dX9_step_8 rfl ?_
    refine r_aload_n dX9_step_11 rfl 0 rfl (nl rfl) ?_
    refine r_get 9 3 (o := a0) (w := (0, h a0 3)) (T := TX9) (ref := "FollowingRefs$Text") rfl (by decide) rfl (by decide) inlX9 (wsl_12 _ (List.mem_of_getElem? (i := 6) rfl)) rfl dX9_step_12 rfl ?_
    refine r_icmp_ge dX9_step_15 (tgt := 81) (by decide) (fun hc => ?_) (fun hc => ?_)
    · have hr := ifn hr hc
      obtain rfl := Option.some.inj hr
      exact r_vret dX9_step_81 rfl (k0 _ hk) ⟨rfl, rfl⟩
    · have hr := ifp hr hc
      refine r_aload_n dX9_step_18 rfl 0 rfl (nl rfl) ?_
      refine r_get 9 4 (o := a0) (w := (0, h a0 4)) (T := TX9) (ref := "FollowingRefs$Text") rfl (by decide) rfl (by decide) inlX9 (wsl_12 _ (List.mem_of_getElem? (i := 11) rfl)) rfl dX9_step_19 rfl ?_
      refine r_aload_n dX9_step_22 rfl 0 rfl (nl rfl) ?_
      refine r_get 9 2 (o := a0) (w := (51, h a0 2)) (T := TX9) (ref := "FollowingRefs$Text") rfl (by decide) rfl (by decide) inlX9 (wsl_3 _ (List.mem_of_getElem? (i := 12) rfl)) rfl dX9_step_23 rfl ?_
      refine r_alen (t := 51) (by decide) (by decide) dX9_step_26 ?_
      refine r_icmp_ge dX9_step_27 (tgt := 81) (by decide) (fun hc => ?_) (fun hc => ?_)
      · have hr := ifn hr hc
        obtain rfl := Option.some.inj hr
        exact r_vret dX9_step_81 rfl (k0 _ hk) ⟨rfl, rfl⟩
      · have hr := ifp hr hc
        refine r_aload_n dX9_step_30 rfl 0 rfl (nl rfl) ?_
        refine r_get 9 2 (o := a0) (w := (51, h a0 2)) (T := TX9) (ref := "FollowingRefs$Text") rfl (by decide) rfl (by decide) inlX9 (wsl_3 _ (List.mem_of_getElem? (i := 12) rfl)) rfl dX9_step_31 rfl ?_
        refine r_aload_n dX9_step_34 rfl 0 rfl (nl rfl) ?_
        refine r_get 9 4 (o := a0) (w := (0, h a0 4)) (T := TX9) (ref := "FollowingRefs$Text") rfl (by decide) rfl (by decide) inlX9 (wsl_12 _ (List.mem_of_getElem? (i := 11) rfl)) rfl dX9_step_35 rfl ?_
        obtain ⟨v38, hg38, hr⟩ := bnd hr
        refine r_lald dX9_step_38 hg38 ?_
        refine r_lstore_n dX9_step_39 rfl (by decide) (lv' := [(1, (1, v38)), (0, (19, a0))]) rfl ?_
        refine r_aload_n dX9_step_40 rfl 1 rfl (nl rfl) ?_
        refine r_lload_n dX9_step_41 rfl 0 rfl ?_
        refine r_ldc2' (v := 255) dX9_step_42 (by decide) (wsl_15 _ (List.mem_of_getElem? (i := 21) rfl)) ?_
        refine r_land dX9_step_45 ?_
        refine r_l2i dX9_step_46 ?_
        obtain ⟨h47, hg47, hr⟩ := bnd hr
        refine r_put' 9 5 (t := 0) (ref := "FollowingRefs$Text") hg47 rfl tyX9 tyX9_ok nmX9 rfl (by decide) rfl (by decide) inlX9 (wsl_15 _ (List.mem_of_getElem? (i := 22) rfl)) rfl rfl (by decide +kernel) (by decide) rfl (Or.inl ⟨rfl, rfl⟩) dX9_step_47 ?_
        refine r_aload_n dX9_step_50 rfl 1 rfl (nl rfl) ?_
        refine r_lload_n dX9_step_51 rfl 0 rfl ?_
        refine r_bipush dX9_step_52 (by decide) (by decide) ?_
        refine r_lushr dX9_step_54 ?_
        refine r_ldc2' (v := 1023) dX9_step_55 (by decide) (wsl_15 _ (List.mem_of_getElem? (i := 23) rfl)) ?_
        refine r_land dX9_step_58 ?_
        refine r_l2i dX9_step_59 ?_
        obtain ⟨h60, hg60, hr⟩ := bnd hr
        refine r_put' 9 6 (t := 0) (ref := "FollowingRefs$Text") hg60 rfl tyX9 tyX9_ok nmX9 rfl (by decide) rfl (by decide) inlX9 (wsl_16 _ (List.mem_of_getElem? (i := 0) rfl)) rfl rfl (by decide +kernel) (by decide) rfl (Or.inl ⟨rfl, rfl⟩) dX9_step_60 ?_
        refine r_aload_n dX9_step_63 rfl 1 rfl (nl rfl) ?_
        refine r_lload_n dX9_step_64 rfl 0 rfl ?_
        refine r_bipush dX9_step_65 (by decide) (by decide) ?_
        refine r_lushr dX9_step_67 ?_
        obtain ⟨h68, hg68, hr⟩ := bnd hr
        refine r_put' 9 7 (t := 1) (ref := "FollowingRefs$Text") hg68 rfl tyX9 tyX9_ok nmX9 rfl (by decide) rfl (by decide) inlX9 (wsl_16 _ (List.mem_of_getElem? (i := 1) rfl)) rfl rfl (by decide +kernel) (by decide) rfl (Or.inr (Or.inl ⟨rfl, rfl⟩)) dX9_step_68 ?_
        refine r_aload_n dX9_step_71 rfl 1 rfl (nl rfl) ?_
        refine r_dup dX9_step_72 (Nat.ne_of_beq_eq_false rfl) ?_
        refine r_get 9 4 (o := a0) (w := (0, h68 a0 4)) (T := TX9) (ref := "FollowingRefs$Text") rfl (by decide) rfl (by decide) inlX9 (wsl_12 _ (List.mem_of_getElem? (i := 11) rfl)) rfl dX9_step_73 rfl ?_
        refine r_iconst dX9_step_76 (by decide) ?_
        refine r_iadd dX9_step_77 ?_
        obtain ⟨h78, hg78, hr⟩ := bnd hr
        refine r_put' 9 4 (t := 0) (ref := "FollowingRefs$Text") hg78 rfl tyX9 tyX9_ok nmX9 rfl (by decide) rfl (by decide) inlX9 (wsl_12 _ (List.mem_of_getElem? (i := 11) rfl)) rfl rfl (by decide +kernel) (by decide) rfl (Or.inl ⟨rfl, rfl⟩) dX9_step_78 ?_
        obtain rfl := Option.some.inj hr
        exact r_vret dX9_step_81 rfl (k0 _ hk) ⟨rfl, rfl⟩
end M_X9_step
theorem oX9_step {l : Launch} {D : va_G} {G : gG} {h : hH} {a0 : Int} {r : hH} (hr : fX9_step h a0 = some r) : Ctr l D G true yX9_step M_X9_step [(19, a0)] h (none, r) :=
  Ctr_of (by decide) rfl (fun z => by cases z) (nl rfl) (fun {p e R s m args below meth c A H0} => by
    exact oX9_step_b0 (K := fun z9 => z9 = r) (fun r9 z => by rw [z]) hr rfl)
/-! X9_start -/
theorem dX9_start_0 : decode cX9_start 0 = .ok (.aload_n 0, 1) := by decide +kernel
theorem dX9_start_1 : decode cX9_start 1 = .ok (.iconst 0, 1) := by decide +kernel
theorem dX9_start_2 : decode cX9_start 2 = .ok (.putfield 23, 3) := by decide +kernel
theorem dX9_start_5 : decode cX9_start 5 = .ok (.aload_n 0, 1) := by decide +kernel
theorem dX9_start_6 : decode cX9_start 6 = .ok (.iconst 0, 1) := by decide +kernel
theorem dX9_start_7 : decode cX9_start 7 = .ok (.putfield 26, 3) := by decide +kernel
theorem dX9_start_10 : decode cX9_start 10 = .ok (.aload_n 0, 1) := by decide +kernel
theorem dX9_start_11 : decode cX9_start 11 = .ok (.iconst 0, 1) := by decide +kernel
theorem dX9_start_12 : decode cX9_start 12 = .ok (.putfield 29, 3) := by decide +kernel
theorem dX9_start_15 : decode cX9_start 15 = .ok (.aload_n 0, 1) := by decide +kernel
theorem dX9_start_16 : decode cX9_start 16 = .ok (.getfield 19, 3) := by decide +kernel
theorem dX9_start_19 : decode cX9_start 19 = .ok (.iload_n 1, 1) := by decide +kernel
theorem dX9_start_20 : decode cX9_start 20 = .ok (.invokestatic 32, 3) := by decide +kernel
theorem dX9_start_23 : decode cX9_start 23 = .ok (.istore_n 2, 1) := by decide +kernel
theorem dX9_start_24 : decode cX9_start 24 = .ok (.iconst 0, 1) := by decide +kernel
theorem dX9_start_25 : decode cX9_start 25 = .ok (.istore_n 3, 1) := by decide +kernel
theorem dX9_start_26 : decode cX9_start 26 = .ok (.iconst 0, 1) := by decide +kernel
theorem dX9_start_27 : decode cX9_start 27 = .ok (.istore 4, 2) := by decide +kernel
theorem dX9_start_29 : decode cX9_start 29 = .ok (.iload 4, 2) := by decide +kernel
theorem dX9_start_31 : decode cX9_start 31 = .ok (.sipush 940, 3) := by decide +kernel
theorem dX9_start_34 : decode cX9_start 34 = .ok (.if_icmp .ge 77, 3) := by decide +kernel
theorem dX9_start_37 : decode cX9_start 37 = .ok (.iload_n 3, 1) := by decide +kernel
theorem dX9_start_38 : decode cX9_start 38 = .ok (.iload_n 2, 1) := by decide +kernel
theorem dX9_start_39 : decode cX9_start 39 = .ok (.if_icmp .ge 72, 3) := by decide +kernel
theorem dX9_start_42 : decode cX9_start 42 = .ok (.aload_n 0, 1) := by decide +kernel
theorem dX9_start_43 : decode cX9_start 43 = .ok (.iload_n 3, 1) := by decide +kernel
theorem dX9_start_44 : decode cX9_start 44 = .ok (.invokevirtual 38, 3) := by decide +kernel
theorem dX9_start_47 : decode cX9_start 47 = .ok (.istore 5, 2) := by decide +kernel
theorem dX9_start_49 : decode cX9_start 49 = .ok (.iload 5, 2) := by decide +kernel
theorem dX9_start_51 : decode cX9_start 51 = .ok (.invokestatic 42, 3) := by decide +kernel
theorem dX9_start_54 : decode cX9_start 54 = .ok (.ifCond .ne 11, 3) := by decide +kernel
theorem dX9_start_57 : decode cX9_start 57 = .ok (.iload 5, 2) := by decide +kernel
theorem dX9_start_59 : decode cX9_start 59 = .ok (.invokestatic 46, 3) := by decide +kernel
theorem dX9_start_62 : decode cX9_start 62 = .ok (.ifCond .eq 12, 3) := by decide +kernel
theorem dX9_start_65 : decode cX9_start 65 = .ok (.aload_n 0, 1) := by decide +kernel
theorem dX9_start_66 : decode cX9_start 66 = .ok (.iload_n 3, 1) := by decide +kernel
theorem dX9_start_67 : decode cX9_start 67 = .ok (.invokevirtual 49, 3) := by decide +kernel
theorem dX9_start_70 : decode cX9_start 70 = .ok (.istore_n 3, 1) := by decide +kernel
theorem dX9_start_71 : decode cX9_start 71 = .ok (.goto 34, 3) := by decide +kernel
theorem dX9_start_74 : decode cX9_start 74 = .ok (.iload 5, 2) := by decide +kernel
theorem dX9_start_76 : decode cX9_start 76 = .ok (.invokestatic 52, 3) := by decide +kernel
theorem dX9_start_79 : decode cX9_start 79 = .ok (.ifCond .ne 23, 3) := by decide +kernel
theorem dX9_start_82 : decode cX9_start 82 = .ok (.aload_n 0, 1) := by decide +kernel
theorem dX9_start_83 : decode cX9_start 83 = .ok (.iload 5, 2) := by decide +kernel
theorem dX9_start_85 : decode cX9_start 85 = .ok (.invokestatic 55, 3) := by decide +kernel
theorem dX9_start_88 : decode cX9_start 88 = .ok (.ifCond .eq 8, 3) := by decide +kernel
theorem dX9_start_91 : decode cX9_start 91 = .ok (.iload 5, 2) := by decide +kernel
theorem dX9_start_93 : decode cX9_start 93 = .ok (.goto 4, 3) := by decide +kernel
theorem dX9_start_96 : decode cX9_start 96 = .ok (.iconst 2, 1) := by decide +kernel
theorem dX9_start_97 : decode cX9_start 97 = .ok (.iload_n 3, 1) := by decide +kernel
theorem dX9_start_98 : decode cX9_start 98 = .ok (.lconst 0, 1) := by decide +kernel
theorem dX9_start_99 : decode cX9_start 99 = .ok (.invokevirtual 58, 3) := by decide +kernel
theorem dX9_start_102 : decode cX9_start 102 = .ok (.iinc 3 1, 3) := by decide +kernel
theorem dX9_start_105 : decode cX9_start 105 = .ok (.iinc 4 1, 3) := by decide +kernel
theorem dX9_start_108 : decode cX9_start 108 = .ok (.goto (-79), 3) := by decide +kernel
theorem dX9_start_111 : decode cX9_start 111 = .ok (.aload_n 0, 1) := by decide +kernel
theorem dX9_start_112 : decode cX9_start 112 = .ok (.aload_n 0, 1) := by decide +kernel
theorem dX9_start_113 : decode cX9_start 113 = .ok (.getfield 19, 3) := by decide +kernel
theorem dX9_start_116 : decode cX9_start 116 = .ok (.iload_n 1, 1) := by decide +kernel
theorem dX9_start_117 : decode cX9_start 117 = .ok (.if_icmp .le 7, 3) := by decide +kernel
theorem dX9_start_120 : decode cX9_start 120 = .ok (.iconst 1, 1) := by decide +kernel
theorem dX9_start_121 : decode cX9_start 121 = .ok (.goto 4, 3) := by decide +kernel
theorem dX9_start_124 : decode cX9_start 124 = .ok (.iconst 0, 1) := by decide +kernel
theorem dX9_start_125 : decode cX9_start 125 = .ok (.iload_n 2, 1) := by decide +kernel
theorem dX9_start_126 : decode cX9_start 126 = .ok (.lconst 0, 1) := by decide +kernel
theorem dX9_start_127 : decode cX9_start 127 = .ok (.invokevirtual 58, 3) := by decide +kernel
theorem dX9_start_130 : decode cX9_start 130 = .ok (.aload_n 0, 1) := by decide +kernel
theorem dX9_start_131 : decode cX9_start 131 = .ok (.iconst 0, 1) := by decide +kernel
theorem dX9_start_132 : decode cX9_start 132 = .ok (.putfield 62, 3) := by decide +kernel
theorem dX9_start_135 : decode cX9_start 135 = .ok (.aload_n 0, 1) := by decide +kernel
theorem dX9_start_136 : decode cX9_start 136 = .ok (.invokevirtual 65, 3) := by decide +kernel
theorem dX9_start_139 : decode cX9_start 139 = .ok (.return_, 1) := by decide +kernel
abbrev M_X9_start : mM := (cX9_start, 6, RX9, none, false, 6, 139, 0, 0)
theorem gX9_start : cI yX9_start M_X9_start 1 := ⟨(wsl_12 _ (List.mem_of_getElem? (i := 1) rfl)), (wsl_12 _ (List.mem_of_getElem? (i := 2) rfl)), (wsl_1 _ (List.mem_of_getElem? (i := 15) rfl)), (wsl_12 _ (List.mem_of_getElem? (i := 3) rfl)), by decide +kernel⟩
noncomputable def fX9_start_b97 (h : hH) (a0 a1 l2 l3 l4 s0 s1 : Int) : Option ((hH × Int × Int) ⊕ (hH)) :=
  (fX9_keep h s1 s0 l3 0).bind fun h99 =>
  some (.inl (h99, w32 (l3 + 1), w32 (l4 + 1)))
noncomputable def fX9_start_b65 (h : hH) (a0 a1 l2 l3 l4 : Int) : Option ((hH × Int × Int) ⊕ (hH)) :=
  (fX9_keepRun h a0 l3).bind fun q67 =>
  some (.inl (q67.2, q67.1, w32 (l4 + 1)))
noncomputable def fX9_start_b125 (h : hH) (a0 l2 s0 s1 : Int) : Option (hH) :=
  (fX9_keep h s1 s0 l2 0).bind fun h127 =>
  (pput h127 a0 4 0).bind fun h132 =>
  (fX9_step h132 a0).bind fun h136 =>
  some h136
noncomputable def fX9_start_b111 (h : hH) (a0 a1 l2 : Int) : Option (hH) :=
  if a1 < h a0 1 then
    fX9_start_b125 h a0 l2 1 a0
  else
    fX9_start_b125 h a0 l2 0 a0
noncomputable def fX9_start_s29 (h0 : hH) (a0 a1 l2 : Int) : hH × Int × Int → Option ((hH × Int × Int) ⊕ (hH)) := fun (h, l3, l4) =>
  if l4 < 940 then
    if l3 < l2 then
      (fX9_byteIn h a0 l3).bind fun r44 =>
      (fX9_isLetter h r44).bind fun r51 =>
      if r51 = 0 then
        (fX9_isDigit h r44).bind fun r59 =>
        if r59 = 0 then
          (fX9_isBlank h r44).bind fun r76 =>
          if r76 = 0 then
            (fX9_isSign h r44).bind fun r85 =>
            if r85 = 0 then
              fX9_start_b97 h a0 a1 l2 l3 l4 2 a0
            else
              fX9_start_b97 h a0 a1 l2 l3 l4 r44 a0
          else
            some (.inl (h, w32 (l3 + 1), w32 (l4 + 1)))
        else
          fX9_start_b65 h a0 a1 l2 l3 l4
      else
        fX9_start_b65 h a0 a1 l2 l3 l4
    else
      (fX9_start_b111 h a0 a1 l2).map (fun z9 => .inr (z9))
  else
    (fX9_start_b111 h a0 a1 l2).map (fun z9 => .inr (z9))
noncomputable def fX9_start (h : hH) (a0 a1 : Int) : Option (hH) :=
  (pput h a0 8 0).bind fun h2 =>
  (pput h2 a0 9 0).bind fun h7 =>
  (pput h7 a0 3 0).bind fun h12 =>
  lpO (fX9_start_s29 h12 a0 a1 (miD (h12 a0 1) a1)) (h12, 0, 0)
section M_X9_start
variable {p : Program} {l : Launch} {e : Env} {R : Room} {s : State} {m : MethodId} {args : Array Value} {below : List Frame} {meth : Method} {c : Code} {D : va_G} {G : gG} {A : Nat → Prop} {H0 : Heap} {n0 : Int} {x : Option vV × hH} {h : hH}
set_option maxRecDepth 100000 in
set_option maxHeartbeats 4000000 in
theorem oX9_start_b97 {a0 a1 l2 l3 l4 s0 s1 : Int} {K : (hH × Int × Int) ⊕ (hH) → Prop} (k0 : ∀ r, K (.inr (r)) → x = (none, r)) (k1 : ∀ (h : hH) (l3 : Int) (l4 : Int), K (.inl (h, l3, l4)) → Wq p l e R s m args below meth c D G A H0 true n0 M_X9_start x 0 0 29 [(0, (19, a0)), (1, (0, a1)), (2, (0, l2)), (3, (0, l3)), (4, (0, l4))] [] h) {r : (hH × Int × Int) ⊕ (hH)} (hr : fX9_start_b97 h a0 a1 l2 l3 l4 s0 s1 = some r) (hk : K r) : Wq p l e R s m args below meth c D G A H0 true n0 M_X9_start x 0 0 97 [(0, (19, a0)), (1, (0, a1)), (2, (0, l2)), (3, (0, l3)), (4, (0, l4))] [(0, s0), (19, s1)] h := by
  unfold fX9_start_b97 at hr
  refine r_iload_n dX9_start_97 rfl 3 rfl (Or.inl rfl) ?_
  refine r_lconst (v := 0) dX9_start_98 (by decide) (by decide) ?_
  obtain ⟨h99, hg99, hr⟩ := bnd hr
  refine k_V (ci := 9) (o := s1) (T := TX9) (as := [(0, s0), (0, l3), (1, 0)]) (rest := []) (X := (none, h99)) (oX9_keep hg99) gX9_keep rfl (by decide) rfl (wsl_15 _ (List.mem_of_getElem? (i := 7) rfl)) rfl dX9_start_99 rfl ?_
  refine r_iinc (k := 3) (v := l3) dX9_start_102 rfl (by decide) (lv' := [(3, (0, w32 (l3 + 1))), (0, (19, a0)), (1, (0, a1)), (2, (0, l2)), (4, (0, l4))]) rfl ?_
  refine r_iinc (k := 4) (v := l4) dX9_start_105 rfl (by decide) (lv' := [(4, (0, w32 (l4 + 1))), (3, (0, w32 (l3 + 1))), (0, (19, a0)), (1, (0, a1)), (2, (0, l2))]) rfl ?_
  refine r_goto dX9_start_108 (tgt := 29) (by decide) ?_
  refine r_sub [2, 3, 4, 1, 0] (lv' := [(0, (19, a0)), (1, (0, a1)), (2, (0, l2)), (3, (0, w32 (l3 + 1))), (4, (0, w32 (l4 + 1)))]) rfl ?_
  obtain rfl := Option.some.inj hr
  exact k1 _ _ _ hk
set_option maxRecDepth 100000 in
set_option maxHeartbeats 4000000 in
theorem oX9_start_b65 {a0 a1 l2 l3 l4 : Int} {K : (hH × Int × Int) ⊕ (hH) → Prop} (k0 : ∀ r, K (.inr (r)) → x = (none, r)) (k1 : ∀ (h : hH) (l3 : Int) (l4 : Int), K (.inl (h, l3, l4)) → Wq p l e R s m args below meth c D G A H0 true n0 M_X9_start x 0 0 29 [(0, (19, a0)), (1, (0, a1)), (2, (0, l2)), (3, (0, l3)), (4, (0, l4))] [] h) {r : (hH × Int × Int) ⊕ (hH)} (hr : fX9_start_b65 h a0 a1 l2 l3 l4 = some r) (hk : K r) : Wq p l e R s m args below meth c D G A H0 true n0 M_X9_start x 0 0 65 [(0, (19, a0)), (1, (0, a1)), (2, (0, l2)), (3, (0, l3)), (4, (0, l4))] [] h := by
  unfold fX9_start_b65 at hr
  refine r_aload_n dX9_start_65 rfl 0 rfl (nl rfl) ?_
  refine r_iload_n dX9_start_66 rfl 3 rfl (Or.inl rfl) ?_
  obtain ⟨q67, hg67, hr⟩ := bnd hr
  refine k_V (ci := 9) (o := a0) (T := TX9) (as := [(0, l3)]) (rest := []) (X := (some (0, q67.1), q67.2)) (oX9_keepRun hg67) gX9_keepRun rfl (by decide) rfl (wsl_12 _ (List.mem_of_getElem? (i := 22) rfl)) rfl dX9_start_67 rfl ?_
  refine r_istore_n dX9_start_70 rfl (Or.inl rfl) (by decide) (lv' := [(3, (0, q67.1)), (0, (19, a0)), (1, (0, a1)), (2, (0, l2)), (4, (0, l4))]) rfl ?_
  refine r_goto dX9_start_71 (tgt := 105) (by decide) ?_
  refine r_iinc (k := 4) (v := l4) dX9_start_105 rfl (by decide) (lv' := [(4, (0, w32 (l4 + 1))), (3, (0, q67.1)), (0, (19, a0)), (1, (0, a1)), (2, (0, l2))]) rfl ?_
  refine r_goto dX9_start_108 (tgt := 29) (by decide) ?_
  refine r_sub [2, 3, 4, 1, 0] (lv' := [(0, (19, a0)), (1, (0, a1)), (2, (0, l2)), (3, (0, q67.1)), (4, (0, w32 (l4 + 1)))]) rfl ?_
  obtain rfl := Option.some.inj hr
  exact k1 _ _ _ hk
set_option maxRecDepth 100000 in
set_option maxHeartbeats 4000000 in
theorem oX9_start_b125 {a0 l2 s0 s1 : Int} {K : hH → Prop} (k0 : ∀ r, K (r) → x = (none, r)) {r : hH} (hr : fX9_start_b125 h a0 l2 s0 s1 = some r) (hk : K r) : Wq p l e R s m args below meth c D G A H0 true n0 M_X9_start x 0 0 125 [(0, (19, a0)), (2, (0, l2))] [(2, s0), (19, s1)] h := by
  unfold fX9_start_b125 at hr
  refine r_iload_n dX9_start_125 rfl 1 rfl (Or.inl rfl) ?_
  refine r_lconst (v := 0) dX9_start_126 (by decide) (by decide) ?_
  refine r_scast 2 (v := (2, s0)) (w := (0, s0)) rfl zc hTz (st' := [(1, 0), (0, l2), (0, s0), (19, s1)]) rfl ?_
  obtain ⟨h127, hg127, hr⟩ := bnd hr
  refine k_V (ci := 9) (o := s1) (T := TX9) (as := [(0, s0), (0, l2), (1, 0)]) (rest := []) (X := (none, h127)) (oX9_keep hg127) gX9_keep rfl (by decide) rfl (wsl_15 _ (List.mem_of_getElem? (i := 7) rfl)) rfl dX9_start_127 rfl ?_
  refine r_aload_n dX9_start_130 rfl 0 rfl (nl rfl) ?_
  refine r_iconst dX9_start_131 (by decide) ?_
  obtain ⟨h132, hg132, hr⟩ := bnd hr
  refine r_put' 9 4 (t := 0) (ref := "FollowingRefs$Text") hg132 rfl tyX9 tyX9_ok nmX9 rfl (by decide) rfl (by decide) inlX9 (wsl_12 _ (List.mem_of_getElem? (i := 11) rfl)) rfl rfl (by decide +kernel) (by decide) rfl (Or.inl ⟨rfl, rfl⟩) dX9_start_132 ?_
  refine r_aload_n dX9_start_135 rfl 0 rfl (nl rfl) ?_
  obtain ⟨h136, hg136, hr⟩ := bnd hr
  refine k_V (ci := 9) (o := a0) (T := TX9) (as := []) (rest := []) (X := (none, h136)) (oX9_step hg136) gX9_step rfl (by decide) rfl (wsl_15 _ (List.mem_of_getElem? (i := 17) rfl)) rfl dX9_start_136 rfl ?_
  obtain rfl := Option.some.inj hr
  exact r_vret dX9_start_139 rfl (k0 _ hk) ⟨rfl, rfl⟩
set_option maxRecDepth 100000 in
set_option maxHeartbeats 4000000 in
theorem oX9_start_b111 {a0 a1 l2 : Int} {K : hH → Prop} (k0 : ∀ r, K (r) → x = (none, r)) {r : hH} (hr : fX9_start_b111 h a0 a1 l2 = some r) (hk : K r) : Wq p l e R s m args below meth c D G A H0 true n0 M_X9_start x 0 0 111 [(0, (19, a0)), (1, (0, a1)), (2, (0, l2))] [] h := by
  unfold fX9_start_b111 at hr
  refine r_aload_n dX9_start_111 rfl 0 rfl (nl rfl) ?_
  refine r_aload_n dX9_start_112 rfl 0 rfl (nl rfl) ?_
  refine r_get 9 1 (o := a0) (w := (0, h a0 1)) (T := TX9) (ref := "FollowingRefs$Text") rfl (by decide) rfl (by decide) inlX9 (wsl_10 _ (List.mem_of_getElem? (i := 6) rfl)) rfl dX9_start_113 rfl ?_
  refine r_iload_n dX9_start_116 rfl 1 rfl (Or.inl rfl) ?_
  refine r_icmp_le dX9_start_117 (tgt := 124) (by decide) (fun hc => ?_) (fun hc => ?_)
  · have hr := ifn hr hc
    refine r_iconst dX9_start_124 (by decide) ?_
    refine r_sub [0, 2] (lv' := [(0, (19, a0)), (2, (0, l2))]) rfl ?_
    refine r_scast 0 (v := (0, 0)) (w := (2, 0)) rfl cz (fun _ => Or.inl rfl) (st' := [(2, 0), (19, a0)]) rfl ?_
    exact oX9_start_b125 (K := K) (fun r z => k0 r z) hr hk
  · have hr := ifp hr hc
    refine r_iconst dX9_start_120 (by decide) ?_
    refine r_goto dX9_start_121 (tgt := 125) (by decide) ?_
    refine r_sub [0, 2] (lv' := [(0, (19, a0)), (2, (0, l2))]) rfl ?_
    refine r_scast 0 (v := (0, 1)) (w := (2, 1)) rfl cz (fun _ => Or.inr rfl) (st' := [(2, 1), (19, a0)]) rfl ?_
    exact oX9_start_b125 (K := K) (fun r z => k0 r z) hr hk
set_option maxRecDepth 100000 in
set_option maxHeartbeats 4000000 in
theorem oX9_start_s29 {h0 : hH} {a0 a1 l2 l3 l4 : Int} {K : (hH × Int × Int) ⊕ (hH) → Prop} (k0 : ∀ r, K (.inr (r)) → x = (none, r)) (k1 : ∀ (h : hH) (l3 : Int) (l4 : Int), K (.inl (h, l3, l4)) → Wq p l e R s m args below meth c D G A H0 true n0 M_X9_start x 0 0 29 [(0, (19, a0)), (1, (0, a1)), (2, (0, l2)), (3, (0, l3)), (4, (0, l4))] [] h) {r : (hH × Int × Int) ⊕ (hH)} (hr : fX9_start_s29 h0 a0 a1 l2 (h, l3, l4) = some r) (hk : K r) : Wq p l e R s m args below meth c D G A H0 true n0 M_X9_start x 0 0 29 [(0, (19, a0)), (1, (0, a1)), (2, (0, l2)), (3, (0, l3)), (4, (0, l4))] [] h := by
  unfold fX9_start_s29 at hr
  refine r_iload dX9_start_29 4 rfl (Or.inl rfl) ?_
  refine r_sipush dX9_start_31 (by decide) (by decide) ?_
  refine r_icmp_ge dX9_start_34 (tgt := 111) (by decide) (fun hc => ?_) (fun hc => ?_)
  · have hr := ifn hr hc
    refine r_sub [0, 1, 2] (lv' := [(0, (19, a0)), (1, (0, a1)), (2, (0, l2))]) rfl ?_
    obtain ⟨r9, hr9, rfl⟩ := mpp hr
    exact oX9_start_b111 (K := fun z9 => K (.inr (z9))) (fun r z => k0 r z) hr9 hk
  · have hr := ifp hr hc
    refine r_iload_n dX9_start_37 rfl 3 rfl (Or.inl rfl) ?_
    refine r_iload_n dX9_start_38 rfl 2 rfl (Or.inl rfl) ?_
    refine r_icmp_ge dX9_start_39 (tgt := 111) (by decide) (fun hc => ?_) (fun hc => ?_)
    · have hr := ifn hr hc
      refine r_sub [0, 1, 2] (lv' := [(0, (19, a0)), (1, (0, a1)), (2, (0, l2))]) rfl ?_
      obtain ⟨r9, hr9, rfl⟩ := mpp hr
      exact oX9_start_b111 (K := fun z9 => K (.inr (z9))) (fun r z => k0 r z) hr9 hk
    · have hr := ifp hr hc
      refine r_aload_n dX9_start_42 rfl 0 rfl (nl rfl) ?_
      refine r_iload_n dX9_start_43 rfl 3 rfl (Or.inl rfl) ?_
      obtain ⟨r44, hg44, hr⟩ := bnd hr
      refine k_V (ci := 9) (o := a0) (T := TX9) (as := [(0, l3)]) (rest := []) (X := (some (0, r44), h)) (oX9_byteIn hg44) gX9_byteIn rfl (by decide) rfl (wsl_12 _ (List.mem_of_getElem? (i := 12) rfl)) rfl dX9_start_44 rfl ?_
      refine r_istore dX9_start_47 (Or.inl rfl) (by decide) (lv' := [(5, (0, r44)), (0, (19, a0)), (1, (0, a1)), (2, (0, l2)), (3, (0, l3)), (4, (0, l4))]) rfl ?_
      refine r_iload dX9_start_49 0 rfl (Or.inl rfl) ?_
      obtain ⟨r51, hg51, hr⟩ := bnd hr
      refine k_S (as := [(0, r44)]) (rest := []) (X := (some (2, r51), h)) (oX9_isLetter hg51) gX9_isLetter rfl (wsl_12 _ (List.mem_of_getElem? (i := 16) rfl)) rfl dX9_start_51 rfl ?_
      refine r_scast 0 (v := (2, r51)) (w := (0, r51)) rfl zc hTz (st' := [(0, r51)]) rfl ?_
      refine r_if_ne dX9_start_54 (tgt := 65) (by decide) (fun hc => ?_) (fun hc => ?_)
      · have hr := ifn hr hc
        refine r_sub [1, 2, 3, 4, 5] (lv' := [(0, (19, a0)), (1, (0, a1)), (2, (0, l2)), (3, (0, l3)), (4, (0, l4))]) rfl ?_
        exact oX9_start_b65 (K := K) (fun r z => k0 r z) (fun _ _ _ z => k1 _ _ _ z) hr hk
      · have hr := ifp hr hc
        refine r_iload dX9_start_57 0 rfl (Or.inl rfl) ?_
        obtain ⟨r59, hg59, hr⟩ := bnd hr
        refine k_S (as := [(0, r44)]) (rest := []) (X := (some (2, r59), h)) (oX9_isDigit hg59) gX9_isDigit rfl (wsl_12 _ (List.mem_of_getElem? (i := 19) rfl)) rfl dX9_start_59 rfl ?_
        refine r_scast 0 (v := (2, r59)) (w := (0, r59)) rfl zc hTz (st' := [(0, r59)]) rfl ?_
        refine r_if_eq dX9_start_62 (tgt := 74) (by decide) (fun hc => ?_) (fun hc => ?_)
        · have hr := ifp hr hc
          refine r_iload dX9_start_74 0 rfl (Or.inl rfl) ?_
          obtain ⟨r76, hg76, hr⟩ := bnd hr
          refine k_S (as := [(0, r44)]) (rest := []) (X := (some (2, r76), h)) (oX9_isBlank hg76) gX9_isBlank rfl (wsl_15 _ (List.mem_of_getElem? (i := 11) rfl)) rfl dX9_start_76 rfl ?_
          refine r_scast 0 (v := (2, r76)) (w := (0, r76)) rfl zc hTz (st' := [(0, r76)]) rfl ?_
          refine r_if_ne dX9_start_79 (tgt := 102) (by decide) (fun hc => ?_) (fun hc => ?_)
          · have hr := ifn hr hc
            refine r_iinc (k := 4) (v := l3) dX9_start_102 rfl (by decide) (lv' := [(3, (0, w32 (l3 + 1))), (5, (0, r44)), (0, (19, a0)), (1, (0, a1)), (2, (0, l2)), (4, (0, l4))]) rfl ?_
            refine r_iinc (k := 5) (v := l4) dX9_start_105 rfl (by decide) (lv' := [(4, (0, w32 (l4 + 1))), (3, (0, w32 (l3 + 1))), (5, (0, r44)), (0, (19, a0)), (1, (0, a1)), (2, (0, l2))]) rfl ?_
            refine r_goto dX9_start_108 (tgt := 29) (by decide) ?_
            refine r_sub [3, 4, 5, 1, 0] (lv' := [(0, (19, a0)), (1, (0, a1)), (2, (0, l2)), (3, (0, w32 (l3 + 1))), (4, (0, w32 (l4 + 1)))]) rfl ?_
            obtain rfl := Option.some.inj hr
            exact k1 _ _ _ hk
          · have hr := ifp hr hc
            refine r_aload_n dX9_start_82 rfl 1 rfl (nl rfl) ?_
            refine r_iload dX9_start_83 0 rfl (Or.inl rfl) ?_
            obtain ⟨r85, hg85, hr⟩ := bnd hr
            refine k_S (as := [(0, r44)]) (rest := [(19, a0)]) (X := (some (2, r85), h)) (oX9_isSign hg85) gX9_isSign rfl (wsl_15 _ (List.mem_of_getElem? (i := 14) rfl)) rfl dX9_start_85 rfl ?_
            refine r_scast 0 (v := (2, r85)) (w := (0, r85)) rfl zc hTz (st' := [(0, r85), (19, a0)]) rfl ?_
            refine r_if_eq dX9_start_88 (tgt := 96) (by decide) (fun hc => ?_) (fun hc => ?_)
            · have hr := ifp hr hc
              refine r_iconst dX9_start_96 (by decide) ?_
              refine r_sub [1, 2, 3, 4, 5] (lv' := [(0, (19, a0)), (1, (0, a1)), (2, (0, l2)), (3, (0, l3)), (4, (0, l4))]) rfl ?_
              exact oX9_start_b97 (K := K) (fun r z => k0 r z) (fun _ _ _ z => k1 _ _ _ z) hr hk
            · have hr := ifn hr hc
              refine r_iload dX9_start_91 0 rfl (Or.inl rfl) ?_
              refine r_goto dX9_start_93 (tgt := 97) (by decide) ?_
              refine r_sub [1, 2, 3, 4, 5] (lv' := [(0, (19, a0)), (1, (0, a1)), (2, (0, l2)), (3, (0, l3)), (4, (0, l4))]) rfl ?_
              exact oX9_start_b97 (K := K) (fun r z => k0 r z) (fun _ _ _ z => k1 _ _ _ z) hr hk
        · have hr := ifn hr hc
          refine r_sub [1, 2, 3, 4, 5] (lv' := [(0, (19, a0)), (1, (0, a1)), (2, (0, l2)), (3, (0, l3)), (4, (0, l4))]) rfl ?_
          exact oX9_start_b65 (K := K) (fun r z => k0 r z) (fun _ _ _ z => k1 _ _ _ z) hr hk
set_option maxRecDepth 100000 in
set_option maxHeartbeats 4000000 in
theorem oX9_start_b0 {a0 a1 : Int} {K : hH → Prop} (k0 : ∀ r, K (r) → x = (none, r)) {r : hH} (hr : fX9_start h a0 a1 = some r) (hk : K r) : Wq p l e R s m args below meth c D G A H0 true n0 M_X9_start x 0 0 0 [(0, (19, a0)), (1, (0, a1))] [] h := by
  unfold fX9_start at hr
  refine r_aload_n dX9_start_0 rfl 0 rfl (nl rfl) ?_
  refine r_iconst dX9_start_1 (by decide) ?_
  obtain ⟨h2, hg2, hr⟩ := bnd hr
  refine r_put' 9 8 (t := 0) (ref := "FollowingRefs$Text") hg2 rfl tyX9 tyX9_ok nmX9 rfl (by decide) rfl (by decide) inlX9 (wsl_12 _ (List.mem_of_getElem? (i := 4) rfl)) rfl rfl (by decide +kernel) (by decide) rfl (Or.inl ⟨rfl, rfl⟩) dX9_start_2 ?_
  refine r_aload_n dX9_start_5 rfl 0 rfl (nl rfl) ?_
  refine r_iconst dX9_start_6 (by decide) ?_
  obtain ⟨h7, hg7, hr⟩ := bnd hr
  refine r_put' 9 9 (t := 0) (ref := "FollowingRefs$Text") hg7 rfl tyX9 tyX9_ok nmX9 rfl (by decide) rfl (by decide) inlX9 (wsl_12 _ (List.mem_of_getElem? (i := 5) rfl)) rfl rfl (by decide +kernel) (by decide) rfl (Or.inl ⟨rfl, rfl⟩) dX9_start_7 ?_
  refine r_aload_n dX9_start_10 rfl 0 rfl (nl rfl) ?_
  refine r_iconst dX9_start_11 (by decide) ?_
  obtain ⟨h12, hg12, hr⟩ := bnd hr
  refine r_put' 9 3 (t := 0) (ref := "FollowingRefs$Text") hg12 rfl tyX9 tyX9_ok nmX9 rfl (by decide) rfl (by decide) inlX9 (wsl_12 _ (List.mem_of_getElem? (i := 6) rfl)) rfl rfl (by decide +kernel) (by decide) rfl (Or.inl ⟨rfl, rfl⟩) dX9_start_12 ?_
  refine r_aload_n dX9_start_15 rfl 0 rfl (nl rfl) ?_
  refine r_get 9 1 (o := a0) (w := (0, h12 a0 1)) (T := TX9) (ref := "FollowingRefs$Text") rfl (by decide) rfl (by decide) inlX9 (wsl_10 _ (List.mem_of_getElem? (i := 6) rfl)) rfl dX9_start_16 rfl ?_
  refine r_iload_n dX9_start_19 rfl 1 rfl (Or.inl rfl) ?_
  refine r_min dX9_start_20 (wsl_12 _ (List.mem_of_getElem? (i := 7) rfl)) (wsl_12 _ (List.mem_of_getElem? (i := 8) rfl)) (wsl_12 _ (List.mem_of_getElem? (i := 9) rfl)) (wsl_12 _ (List.mem_of_getElem? (i := 10) rfl)) ⟨nl rfl, nl rfl⟩ ⟨nl rfl, nl rfl⟩ ?_
  refine r_istore_n dX9_start_23 rfl (Or.inl rfl) (by decide) (lv' := [(2, (0, miD (h12 a0 1) a1)), (0, (19, a0)), (1, (0, a1))]) rfl ?_
  refine r_iconst dX9_start_24 (by decide) ?_
  refine r_istore_n dX9_start_25 rfl (Or.inl rfl) (by decide) (lv' := [(3, (0, 0)), (2, (0, miD (h12 a0 1) a1)), (0, (19, a0)), (1, (0, a1))]) rfl ?_
  refine r_iconst dX9_start_26 (by decide) ?_
  refine r_istore dX9_start_27 (Or.inl rfl) (by decide) (lv' := [(4, (0, 0)), (3, (0, 0)), (2, (0, miD (h12 a0 1) a1)), (0, (19, a0)), (1, (0, a1))]) rfl ?_
  refine r_sub [3, 4, 2, 1, 0] (lv' := [(0, (19, a0)), (1, (0, a1)), (2, (0, miD (h12 a0 1) a1)), (3, (0, 0)), (4, (0, 0))]) rfl ?_
  exact lp_ok (w := fun (q : hH × Int × Int) => Wq p l e R s m args below meth c D G A H0 true n0 M_X9_start x 0 0 29 [(0, (19, a0)), (1, (0, a1)), (2, (0, miD (h12 a0 1) a1)), (3, (0, q.2.1)), (4, (0, q.2.2))] [] (q.1)) (K := K) (fun ⟨q0, q1, q2⟩ r h1 h2 => oX9_start_s29 (K := Sum.elim (fun (q : hH × Int × Int) => Wq p l e R s m args below meth c D G A H0 true n0 M_X9_start x 0 0 29 [(0, (19, a0)), (1, (0, a1)), (2, (0, miD (h12 a0 1) a1)), (3, (0, q.2.1)), (4, (0, q.2.2))] [] (q.1)) (K)) (fun r z => k0 r z) (fun _ _ _ z => z) h1 h2) hr hk
end M_X9_start
theorem oX9_start {l : Launch} {D : va_G} {G : gG} {h : hH} {a0 a1 : Int} {r : hH} (hr : fX9_start h a0 a1 = some r) : Ctr l D G true yX9_start M_X9_start [(19, a0), (0, a1)] h (none, r) :=
  Ctr_of (by decide) rfl (fun z => by cases z) (nl rfl) (fun {p e R s m args below meth c A H0} => by
    exact oX9_start_b0 (K := fun z9 => z9 = r) (fun r9 z => by rw [z]) hr rfl)
/-! X2_startsStatement -/
theorem dX2_startsStatement_0 : decode cX2_startsStatement 0 = .ok (.iload_n 0, 1) := by decide +kernel
theorem dX2_startsStatement_1 : decode cX2_startsStatement 1 = .ok (.sipush 141, 3) := by decide +kernel
theorem dX2_startsStatement_4 : decode cX2_startsStatement 4 = .ok (.if_icmp .eq 17, 3) := by decide +kernel
theorem dX2_startsStatement_7 : decode cX2_startsStatement 7 = .ok (.iload_n 0, 1) := by decide +kernel
theorem dX2_startsStatement_8 : decode cX2_startsStatement 8 = .ok (.sipush 142, 3) := by decide +kernel
theorem dX2_startsStatement_11 : decode cX2_startsStatement 11 = .ok (.if_icmp .eq 10, 3) := by decide +kernel
theorem dX2_startsStatement_14 : decode cX2_startsStatement 14 = .ok (.iload_n 0, 1) := by decide +kernel
theorem dX2_startsStatement_15 : decode cX2_startsStatement 15 = .ok (.sipush 145, 3) := by decide +kernel
theorem dX2_startsStatement_18 : decode cX2_startsStatement 18 = .ok (.if_icmp .ne 7, 3) := by decide +kernel
theorem dX2_startsStatement_21 : decode cX2_startsStatement 21 = .ok (.iconst 1, 1) := by decide +kernel
theorem dX2_startsStatement_22 : decode cX2_startsStatement 22 = .ok (.goto 4, 3) := by decide +kernel
theorem dX2_startsStatement_25 : decode cX2_startsStatement 25 = .ok (.iconst 0, 1) := by decide +kernel
theorem dX2_startsStatement_26 : decode cX2_startsStatement 26 = .ok (.ireturn, 1) := by decide +kernel
abbrev M_X2_startsStatement : mM := (cX2_startsStatement, 1, RX2, some .boolean, false, 0, 0, 0, 0)
theorem gX2_startsStatement : cS yX2_startsStatement M_X2_startsStatement 1 := ⟨(wsl_29 _ (List.mem_of_getElem? (i := 20) rfl)), (wsl_2 _ (List.mem_of_getElem? (i := 15) rfl)), (wsl_29 _ (List.mem_of_getElem? (i := 21) rfl)), by decide +kernel⟩
noncomputable def fX2_startsStatement_b21 (h : hH) : Option (Int) :=
  some 1
noncomputable def fX2_startsStatement (h : hH) (a0 : Int) : Option (Int) :=
  if a0 = 141 then
    fX2_startsStatement_b21 h
  else
    if a0 = 142 then
      fX2_startsStatement_b21 h
    else
      if a0 = 145 then
        fX2_startsStatement_b21 h
      else
        some 0
section M_X2_startsStatement
variable {p : Program} {l : Launch} {e : Env} {R : Room} {s : State} {m : MethodId} {args : Array Value} {below : List Frame} {meth : Method} {c : Code} {D : va_G} {G : gG} {A : Nat → Prop} {H0 : Heap} {n0 : Int} {x : Option vV × hH} {h : hH}
set_option maxRecDepth 100000 in
set_option maxHeartbeats 4000000 in
theorem oX2_startsStatement_b21 {K : Int → Prop} (k0 : ∀ r, K (r) → x = (some (2, r), h)) {r : Int} (hr : fX2_startsStatement_b21 h  = some r) (hk : K r) : Wq p l e R s m args below meth c D G A H0 true n0 M_X2_startsStatement x 0 0 21 [] [] h := by
  unfold fX2_startsStatement_b21 at hr
  refine r_iconst dX2_startsStatement_21 (by decide) ?_
  refine r_goto dX2_startsStatement_22 (tgt := 26) (by decide) ?_
  refine r_scast 0 (v := (0, 1)) (w := (2, 1)) rfl cz (fun _ => Or.inr rfl) (st' := [(2, 1)]) rfl ?_
  obtain rfl := Option.some.inj hr
  exact r_ret dX2_startsStatement_26 rfl (Or.inr ⟨rfl, rfl⟩) (k0 _ hk) ⟨rfl, rfl⟩
set_option maxRecDepth 100000 in
set_option maxHeartbeats 4000000 in
theorem oX2_startsStatement_b0 {a0 : Int} {K : Int → Prop} (k0 : ∀ r, K (r) → x = (some (2, r), h)) {r : Int} (hr : fX2_startsStatement h a0 = some r) (hk : K r) : Wq p l e R s m args below meth c D G A H0 true n0 M_X2_startsStatement x 0 0 0 [(0, (0, a0))] [] h := by
  unfold fX2_startsStatement at hr
  refine r_iload_n dX2_startsStatement_0 rfl 0 rfl (Or.inl rfl) ?_
  refine r_sipush dX2_startsStatement_1 (by decide) (by decide) ?_
  refine r_icmp_eq dX2_startsStatement_4 (tgt := 21) (by decide) (fun hc => ?_) (fun hc => ?_)
  · have hr := ifp hr hc
    refine r_sub [] (lv' := []) rfl ?_
    exact oX2_startsStatement_b21 (K := K) (fun r z => k0 r z) hr hk
  · have hr := ifn hr hc
    refine r_iload_n dX2_startsStatement_7 rfl 0 rfl (Or.inl rfl) ?_
    refine r_sipush dX2_startsStatement_8 (by decide) (by decide) ?_
    refine r_icmp_eq dX2_startsStatement_11 (tgt := 21) (by decide) (fun hc => ?_) (fun hc => ?_)
    · have hr := ifp hr hc
      refine r_sub [] (lv' := []) rfl ?_
      exact oX2_startsStatement_b21 (K := K) (fun r z => k0 r z) hr hk
    · have hr := ifn hr hc
      refine r_iload_n dX2_startsStatement_14 rfl 0 rfl (Or.inl rfl) ?_
      refine r_sipush dX2_startsStatement_15 (by decide) (by decide) ?_
      refine r_icmp_ne dX2_startsStatement_18 (tgt := 25) (by decide) (fun hc => ?_) (fun hc => ?_)
      · have hr := ifn hr hc
        refine r_iconst dX2_startsStatement_25 (by decide) ?_
        refine r_scast 0 (v := (0, 0)) (w := (2, 0)) rfl cz (fun _ => Or.inl rfl) (st' := [(2, 0)]) rfl ?_
        obtain rfl := Option.some.inj hr
        exact r_ret dX2_startsStatement_26 rfl (Or.inr ⟨rfl, rfl⟩) (k0 _ hk) ⟨rfl, rfl⟩
      · have hr := ifp hr hc
        refine r_sub [] (lv' := []) rfl ?_
        exact oX2_startsStatement_b21 (K := K) (fun r z => k0 r z) hr hk
end M_X2_startsStatement
theorem oX2_startsStatement {l : Launch} {D : va_G} {G : gG} {h : hH} {a0 : Int} {r : Int} (hr : fX2_startsStatement h a0 = some r) : Ctr l D G true yX2_startsStatement M_X2_startsStatement [(0, a0)] h (some (2, r), h) :=
  Ctr_of (by decide) rfl (fun z => by cases z) (nl rfl) (fun {p e R s m args below meth c A H0} => by
    exact oX2_startsStatement_b0 (K := fun z9 => z9 = r) (fun r9 z => by rw [z]) hr rfl)
/-! X9_fail -/
theorem dX9_fail_0 : decode cX9_fail 0 = .ok (.aload_n 0, 1) := by decide +kernel
theorem dX9_fail_1 : decode cX9_fail 1 = .ok (.iload_n 1, 1) := by decide +kernel
theorem dX9_fail_2 : decode cX9_fail 2 = .ok (.putfield 23, 3) := by decide +kernel
theorem dX9_fail_5 : decode cX9_fail 5 = .ok (.aload_n 0, 1) := by decide +kernel
theorem dX9_fail_6 : decode cX9_fail 6 = .ok (.aload_n 0, 1) := by decide +kernel
theorem dX9_fail_7 : decode cX9_fail 7 = .ok (.getfield 81, 3) := by decide +kernel
theorem dX9_fail_10 : decode cX9_fail 10 = .ok (.putfield 26, 3) := by decide +kernel
theorem dX9_fail_13 : decode cX9_fail 13 = .ok (.iconst 0, 1) := by decide +kernel
theorem dX9_fail_14 : decode cX9_fail 14 = .ok (.ireturn, 1) := by decide +kernel
abbrev M_X9_fail : mM := (cX9_fail, 2, RX9, some .boolean, false, 0, 0, 0, 0)
theorem gX9_fail : cI yX9_fail M_X9_fail 1 := ⟨(wsl_16 _ (List.mem_of_getElem? (i := 11) rfl)), (wsl_16 _ (List.mem_of_getElem? (i := 12) rfl)), (wsl_1 _ (List.mem_of_getElem? (i := 15) rfl)), (wsl_16 _ (List.mem_of_getElem? (i := 13) rfl)), by decide +kernel⟩
noncomputable def fX9_fail (h : hH) (a0 a1 : Int) : Option (Int × hH) :=
  (pput h a0 8 a1).bind fun h2 =>
  (pput h2 a0 9 (h2 a0 6)).bind fun h10 =>
  some (0, h10)
section M_X9_fail
variable {p : Program} {l : Launch} {e : Env} {R : Room} {s : State} {m : MethodId} {args : Array Value} {below : List Frame} {meth : Method} {c : Code} {D : va_G} {G : gG} {A : Nat → Prop} {H0 : Heap} {n0 : Int} {x : Option vV × hH} {h : hH}
set_option maxRecDepth 100000 in
set_option maxHeartbeats 4000000 in
theorem oX9_fail_b0 {a0 a1 : Int} {K : Int × hH → Prop} (k0 : ∀ r, K (r) → x = (some (2, r.1), r.2)) {r : Int × hH} (hr : fX9_fail h a0 a1 = some r) (hk : K r) : Wq p l e R s m args below meth c D G A H0 true n0 M_X9_fail x 0 0 0 [(0, (19, a0)), (1, (0, a1))] [] h := by
  unfold fX9_fail at hr
  refine r_aload_n dX9_fail_0 rfl 0 rfl (nl rfl) ?_
  refine r_iload_n dX9_fail_1 rfl 1 rfl (Or.inl rfl) ?_
  obtain ⟨h2, hg2, hr⟩ := bnd hr
  refine r_put' 9 8 (t := 0) (ref := "FollowingRefs$Text") hg2 rfl tyX9 tyX9_ok nmX9 rfl (by decide) rfl (by decide) inlX9 (wsl_12 _ (List.mem_of_getElem? (i := 4) rfl)) rfl rfl (by decide +kernel) (by decide) rfl (Or.inl ⟨rfl, rfl⟩) dX9_fail_2 ?_
  refine r_aload_n dX9_fail_5 rfl 0 rfl (nl rfl) ?_
  refine r_aload_n dX9_fail_6 rfl 0 rfl (nl rfl) ?_
  refine r_get 9 6 (o := a0) (w := (0, h2 a0 6)) (T := TX9) (ref := "FollowingRefs$Text") rfl (by decide) rfl (by decide) inlX9 (wsl_16 _ (List.mem_of_getElem? (i := 0) rfl)) rfl dX9_fail_7 rfl ?_
  obtain ⟨h10, hg10, hr⟩ := bnd hr
  refine r_put' 9 9 (t := 0) (ref := "FollowingRefs$Text") hg10 rfl tyX9 tyX9_ok nmX9 rfl (by decide) rfl (by decide) inlX9 (wsl_12 _ (List.mem_of_getElem? (i := 5) rfl)) rfl rfl (by decide +kernel) (by decide) rfl (Or.inl ⟨rfl, rfl⟩) dX9_fail_10 ?_
  refine r_iconst dX9_fail_13 (by decide) ?_
  refine r_scast 0 (v := (0, 0)) (w := (2, 0)) rfl cz (fun _ => Or.inl rfl) (st' := [(2, 0)]) rfl ?_
  obtain rfl := Option.some.inj hr
  exact r_ret dX9_fail_14 rfl (Or.inr ⟨rfl, rfl⟩) (k0 _ hk) ⟨rfl, rfl⟩
end M_X9_fail
theorem oX9_fail {l : Launch} {D : va_G} {G : gG} {h : hH} {a0 a1 : Int} {r : Int × hH} (hr : fX9_fail h a0 a1 = some r) : Ctr l D G true yX9_fail M_X9_fail [(19, a0), (0, a1)] h (some (2, r.1), r.2) :=
  Ctr_of (by decide) rfl (fun z => by cases z) (nl rfl) (fun {p e R s m args below meth c A H0} => by
    exact oX9_fail_b0 (K := fun z9 => z9 = r) (fun r9 z => by rw [z]) hr rfl)
/-! X4_name -/
theorem dX4_name_0 : decode cX4_name 0 = .ok (.iload_n 1, 1) := by decide +kernel
theorem dX4_name_1 : decode cX4_name 1 = .ok (.ifCond .lt 21, 3) := by decide +kernel
theorem dX4_name_4 : decode cX4_name 4 = .ok (.iload_n 1, 1) := by decide +kernel
theorem dX4_name_5 : decode cX4_name 5 = .ok (.aload_n 0, 1) := by decide +kernel
theorem dX4_name_6 : decode cX4_name 6 = .ok (.getfield 9, 3) := by decide +kernel
theorem dX4_name_9 : decode cX4_name 9 = .ok (.arraylength, 1) := by decide +kernel
theorem dX4_name_10 : decode cX4_name 10 = .ok (.if_icmp .ge 12, 3) := by decide +kernel
theorem dX4_name_13 : decode cX4_name 13 = .ok (.aload_n 0, 1) := by decide +kernel
theorem dX4_name_14 : decode cX4_name 14 = .ok (.getfield 9, 3) := by decide +kernel
theorem dX4_name_17 : decode cX4_name 17 = .ok (.iload_n 1, 1) := by decide +kernel
theorem dX4_name_18 : decode cX4_name 18 = .ok (.laload, 1) := by decide +kernel
theorem dX4_name_19 : decode cX4_name 19 = .ok (.goto 4, 3) := by decide +kernel
theorem dX4_name_22 : decode cX4_name 22 = .ok (.lconst 0, 1) := by decide +kernel
theorem dX4_name_23 : decode cX4_name 23 = .ok (.lreturn, 1) := by decide +kernel
abbrev M_X4_name : mM := (cX4_name, 2, RX4, some .long, false, 0, 0, 0, 0)
theorem gX4_name : cI yX4_name M_X4_name 1 := ⟨(wsl_17 _ (List.mem_of_getElem? (i := 1) rfl)), (wsl_17 _ (List.mem_of_getElem? (i := 2) rfl)), (wsl_1 _ (List.mem_of_getElem? (i := 19) rfl)), (wsl_17 _ (List.mem_of_getElem? (i := 3) rfl)), by decide +kernel⟩
noncomputable def fX4_name (h : hH) (a0 a1 : Int) : Option (Int) :=
  if a1 < 0 then
    some 0
  else
    if a1 < h (h a0 4) (-1) then
      (aget h (h a0 4) a1).bind fun v18 =>
      some v18
    else
      some 0
section M_X4_name
variable {p : Program} {l : Launch} {e : Env} {R : Room} {s : State} {m : MethodId} {args : Array Value} {below : List Frame} {meth : Method} {c : Code} {D : va_G} {G : gG} {A : Nat → Prop} {H0 : Heap} {n0 : Int} {x : Option vV × hH} {h : hH}
set_option maxRecDepth 100000 in
set_option maxHeartbeats 4000000 in
theorem oX4_name_b0 {a0 a1 : Int} {K : Int → Prop} (k0 : ∀ r, K (r) → x = (some (1, r), h)) {r : Int} (hr : fX4_name h a0 a1 = some r) (hk : K r) : Wq p l e R s m args below meth c D G A H0 true n0 M_X4_name x 0 0 0 [(0, (14, a0)), (1, (0, a1))] [] h := by
  unfold fX4_name at hr
  refine r_iload_n dX4_name_0 rfl 1 rfl (Or.inl rfl) ?_
  refine r_if_lt dX4_name_1 (tgt := 22) (by decide) (fun hc => ?_) (fun hc => ?_)
  · have hr := ifp hr hc
    refine r_lconst (v := 0) dX4_name_22 (by decide) (by decide) ?_
    obtain rfl := Option.some.inj hr
    exact r_lret dX4_name_23 rfl (k0 _ hk) ⟨rfl, rfl⟩
  · have hr := ifn hr hc
    refine r_iload_n dX4_name_4 rfl 1 rfl (Or.inl rfl) ?_
    refine r_aload_n dX4_name_5 rfl 0 rfl (nl rfl) ?_
    refine r_get 4 4 (o := a0) (w := (51, h a0 4)) (T := TX4) (ref := "FollowingRefs$Schema") rfl (by decide) rfl (by decide) inlX4 (wsl_3 _ (List.mem_of_getElem? (i := 16) rfl)) rfl dX4_name_6 rfl ?_
    refine r_alen (t := 51) (by decide) (by decide) dX4_name_9 ?_
    refine r_icmp_ge dX4_name_10 (tgt := 22) (by decide) (fun hc => ?_) (fun hc => ?_)
    · have hr := ifn hr hc
      refine r_lconst (v := 0) dX4_name_22 (by decide) (by decide) ?_
      obtain rfl := Option.some.inj hr
      exact r_lret dX4_name_23 rfl (k0 _ hk) ⟨rfl, rfl⟩
    · have hr := ifp hr hc
      refine r_aload_n dX4_name_13 rfl 0 rfl (nl rfl) ?_
      refine r_get 4 4 (o := a0) (w := (51, h a0 4)) (T := TX4) (ref := "FollowingRefs$Schema") rfl (by decide) rfl (by decide) inlX4 (wsl_3 _ (List.mem_of_getElem? (i := 16) rfl)) rfl dX4_name_14 rfl ?_
      refine r_iload_n dX4_name_17 rfl 1 rfl (Or.inl rfl) ?_
      obtain ⟨v18, hg18, hr⟩ := bnd hr
      refine r_lald dX4_name_18 hg18 ?_
      refine r_goto dX4_name_19 (tgt := 23) (by decide) ?_
      obtain rfl := Option.some.inj hr
      exact r_lret dX4_name_23 rfl (k0 _ hk) ⟨rfl, rfl⟩
end M_X4_name
theorem oX4_name {l : Launch} {D : va_G} {G : gG} {h : hH} {a0 a1 : Int} {r : Int} (hr : fX4_name h a0 a1 = some r) : Ctr l D G true yX4_name M_X4_name [(14, a0), (0, a1)] h (some (1, r), h) :=
  Ctr_of (by decide) rfl (fun z => by cases z) (nl rfl) (fun {p e R s m args below meth c A H0} => by
    exact oX4_name_b0 (K := fun z9 => z9 = r) (fun r9 z => by rw [z]) hr rfl)
/-! X4_tableNamed -/
theorem dX4_tableNamed_0 : decode cX4_tableNamed 0 = .ok (.iconst 0, 1) := by decide +kernel
theorem dX4_tableNamed_1 : decode cX4_tableNamed 1 = .ok (.istore_n 3, 1) := by decide +kernel
theorem dX4_tableNamed_2 : decode cX4_tableNamed 2 = .ok (.iload_n 3, 1) := by decide +kernel
theorem dX4_tableNamed_3 : decode cX4_tableNamed 3 = .ok (.aload_n 0, 1) := by decide +kernel
theorem dX4_tableNamed_4 : decode cX4_tableNamed 4 = .ok (.getfield 37, 3) := by decide +kernel
theorem dX4_tableNamed_7 : decode cX4_tableNamed 7 = .ok (.if_icmp .ge 21, 3) := by decide +kernel
theorem dX4_tableNamed_10 : decode cX4_tableNamed 10 = .ok (.aload_n 0, 1) := by decide +kernel
theorem dX4_tableNamed_11 : decode cX4_tableNamed 11 = .ok (.iload_n 3, 1) := by decide +kernel
theorem dX4_tableNamed_12 : decode cX4_tableNamed 12 = .ok (.invokevirtual 72, 3) := by decide +kernel
theorem dX4_tableNamed_15 : decode cX4_tableNamed 15 = .ok (.lload_n 1, 1) := by decide +kernel
theorem dX4_tableNamed_16 : decode cX4_tableNamed 16 = .ok (.lcmp, 1) := by decide +kernel
theorem dX4_tableNamed_17 : decode cX4_tableNamed 17 = .ok (.ifCond .ne 5, 3) := by decide +kernel
theorem dX4_tableNamed_20 : decode cX4_tableNamed 20 = .ok (.iload_n 3, 1) := by decide +kernel
theorem dX4_tableNamed_21 : decode cX4_tableNamed 21 = .ok (.ireturn, 1) := by decide +kernel
theorem dX4_tableNamed_22 : decode cX4_tableNamed 22 = .ok (.iinc 3 1, 3) := by decide +kernel
theorem dX4_tableNamed_25 : decode cX4_tableNamed 25 = .ok (.goto (-23), 3) := by decide +kernel
theorem dX4_tableNamed_28 : decode cX4_tableNamed 28 = .ok (.iconst (-1), 1) := by decide +kernel
theorem dX4_tableNamed_29 : decode cX4_tableNamed 29 = .ok (.ireturn, 1) := by decide +kernel
abbrev M_X4_tableNamed : mM := (cX4_tableNamed, 4, RX4, some .int, false, 1, 21, 0, 0)
theorem gX4_tableNamed : cI yX4_tableNamed M_X4_tableNamed 1 := ⟨(wsl_16 _ (List.mem_of_getElem? (i := 21) rfl)), (wsl_16 _ (List.mem_of_getElem? (i := 22) rfl)), (wsl_1 _ (List.mem_of_getElem? (i := 19) rfl)), (wsl_16 _ (List.mem_of_getElem? (i := 23) rfl)), by decide +kernel⟩
noncomputable def fX4_tableNamed_s2 (h : hH) (a0 a1 : Int) : Int → Option ((Int) ⊕ (Int)) := fun l3 =>
  if l3 < h a0 0 then
    (fX4_name h a0 l3).bind fun r12 =>
    if lcmD r12 a1 = 0 then
      some (.inr (l3))
    else
      some (.inl (w32 (l3 + 1)))
  else
    some (.inr (-1))
noncomputable def fX4_tableNamed (h : hH) (a0 a1 : Int) : Option (Int) :=
  lpO (fX4_tableNamed_s2 h a0 a1) 0
section M_X4_tableNamed
variable {p : Program} {l : Launch} {e : Env} {R : Room} {s : State} {m : MethodId} {args : Array Value} {below : List Frame} {meth : Method} {c : Code} {D : va_G} {G : gG} {A : Nat → Prop} {H0 : Heap} {n0 : Int} {x : Option vV × hH} {h : hH}
set_option maxRecDepth 100000 in
set_option maxHeartbeats 4000000 in
theorem oX4_tableNamed_s2 {a0 a1 l3 : Int} {K : (Int) ⊕ (Int) → Prop} (k0 : ∀ r, K (.inr (r)) → x = (some (0, r), h)) (k1 : ∀ (l3 : Int), K (.inl l3) → Wq p l e R s m args below meth c D G A H0 true n0 M_X4_tableNamed x 0 0 2 [(0, (14, a0)), (1, (1, a1)), (3, (0, l3))] [] h) {r : (Int) ⊕ (Int)} (hr : fX4_tableNamed_s2 h a0 a1 l3 = some r) (hk : K r) : Wq p l e R s m args below meth c D G A H0 true n0 M_X4_tableNamed x 0 0 2 [(0, (14, a0)), (1, (1, a1)), (3, (0, l3))] [] h := by
  unfold fX4_tableNamed_s2 at hr
  refine r_iload_n dX4_tableNamed_2 rfl 2 rfl (Or.inl rfl) ?_
  refine r_aload_n dX4_tableNamed_3 rfl 0 rfl (nl rfl) ?_
  refine r_get 4 0 (o := a0) (w := (0, h a0 0)) (T := TX4) (ref := "FollowingRefs$Schema") rfl (by decide) rfl (by decide) inlX4 (wsl_11 _ (List.mem_of_getElem? (i := 19) rfl)) rfl dX4_tableNamed_4 rfl ?_
  refine r_icmp_ge dX4_tableNamed_7 (tgt := 28) (by decide) (fun hc => ?_) (fun hc => ?_)
  · have hr := ifn hr hc
    refine r_iconst dX4_tableNamed_28 (by decide) ?_
    obtain rfl := Option.some.inj hr
    exact r_ret dX4_tableNamed_29 rfl (Or.inl ⟨rfl, rfl⟩) (k0 _ hk) ⟨rfl, rfl⟩
  · have hr := ifp hr hc
    refine r_aload_n dX4_tableNamed_10 rfl 0 rfl (nl rfl) ?_
    refine r_iload_n dX4_tableNamed_11 rfl 2 rfl (Or.inl rfl) ?_
    obtain ⟨r12, hg12, hr⟩ := bnd hr
    refine k_V (ci := 4) (o := a0) (T := TX4) (as := [(0, l3)]) (rest := []) (X := (some (1, r12), h)) (oX4_name hg12) gX4_name rfl (by decide) rfl (wsl_17 _ (List.mem_of_getElem? (i := 0) rfl)) rfl dX4_tableNamed_12 rfl ?_
    refine r_lload_n dX4_tableNamed_15 rfl 1 rfl ?_
    refine r_lcmp dX4_tableNamed_16 ?_
    refine r_if_ne dX4_tableNamed_17 (tgt := 22) (by decide) (fun hc => ?_) (fun hc => ?_)
    · have hr := ifn hr hc
      refine r_iinc (k := 2) (v := l3) dX4_tableNamed_22 rfl (by decide) (lv' := [(3, (0, w32 (l3 + 1))), (0, (14, a0)), (1, (1, a1))]) rfl ?_
      refine r_goto dX4_tableNamed_25 (tgt := 2) (by decide) ?_
      refine r_sub [1, 2, 0] (lv' := [(0, (14, a0)), (1, (1, a1)), (3, (0, w32 (l3 + 1)))]) rfl ?_
      obtain rfl := Option.some.inj hr
      exact k1 _ hk
    · have hr := ifp hr hc
      refine r_iload_n dX4_tableNamed_20 rfl 2 rfl (Or.inl rfl) ?_
      obtain rfl := Option.some.inj hr
      exact r_ret dX4_tableNamed_21 rfl (Or.inl ⟨rfl, rfl⟩) (k0 _ hk) ⟨rfl, rfl⟩
set_option maxRecDepth 100000 in
set_option maxHeartbeats 4000000 in
theorem oX4_tableNamed_b0 {a0 a1 : Int} {K : Int → Prop} (k0 : ∀ r, K (r) → x = (some (0, r), h)) {r : Int} (hr : fX4_tableNamed h a0 a1 = some r) (hk : K r) : Wq p l e R s m args below meth c D G A H0 true n0 M_X4_tableNamed x 0 0 0 [(0, (14, a0)), (1, (1, a1))] [] h := by
  unfold fX4_tableNamed at hr
  refine r_iconst dX4_tableNamed_0 (by decide) ?_
  refine r_istore_n dX4_tableNamed_1 rfl (Or.inl rfl) (by decide) (lv' := [(3, (0, 0)), (0, (14, a0)), (1, (1, a1))]) rfl ?_
  refine r_sub [1, 2, 0] (lv' := [(0, (14, a0)), (1, (1, a1)), (3, (0, 0))]) rfl ?_
  exact lp_ok (w := fun (q : Int) => Wq p l e R s m args below meth c D G A H0 true n0 M_X4_tableNamed x 0 0 2 [(0, (14, a0)), (1, (1, a1)), (3, (0, q))] [] (h)) (K := K) (fun q r h1 h2 => oX4_tableNamed_s2 (K := Sum.elim (fun (q : Int) => Wq p l e R s m args below meth c D G A H0 true n0 M_X4_tableNamed x 0 0 2 [(0, (14, a0)), (1, (1, a1)), (3, (0, q))] [] (h)) (K)) (fun r z => k0 r z) (fun _ z => z) h1 h2) hr hk
end M_X4_tableNamed
theorem oX4_tableNamed {l : Launch} {D : va_G} {G : gG} {h : hH} {a0 a1 : Int} {r : Int} (hr : fX4_tableNamed h a0 a1 = some r) : Ctr l D G true yX4_tableNamed M_X4_tableNamed [(14, a0), (1, a1)] h (some (0, r), h) :=
  Ctr_of (by decide) rfl (fun z => by cases z) (nl rfl) (fun {p e R s m args below meth c A H0} => by
    exact oX4_tableNamed_b0 (K := fun z9 => z9 = r) (fun r9 z => by rw [z]) hr rfl)
/-! X9_takeTable -/
theorem dX9_takeTable_0 : decode cX9_takeTable 0 = .ok (.aload_n 0, 1) := by decide +kernel
theorem dX9_takeTable_1 : decode cX9_takeTable 1 = .ok (.getfield 76, 3) := by decide +kernel
theorem dX9_takeTable_4 : decode cX9_takeTable 4 = .ok (.iconst 4, 1) := by decide +kernel
theorem dX9_takeTable_5 : decode cX9_takeTable 5 = .ok (.if_icmp .eq 11, 3) := by decide +kernel
theorem dX9_takeTable_8 : decode cX9_takeTable 8 = .ok (.aload_n 0, 1) := by decide +kernel
theorem dX9_takeTable_9 : decode cX9_takeTable 9 = .ok (.iconst 1, 1) := by decide +kernel
theorem dX9_takeTable_10 : decode cX9_takeTable 10 = .ok (.invokevirtual 99, 3) := by decide +kernel
theorem dX9_takeTable_13 : decode cX9_takeTable 13 = .ok (.pop, 1) := by decide +kernel
theorem dX9_takeTable_14 : decode cX9_takeTable 14 = .ok (.iconst (-1), 1) := by decide +kernel
theorem dX9_takeTable_15 : decode cX9_takeTable 15 = .ok (.ireturn, 1) := by decide +kernel
theorem dX9_takeTable_16 : decode cX9_takeTable 16 = .ok (.aload_n 1, 1) := by decide +kernel
theorem dX9_takeTable_17 : decode cX9_takeTable 17 = .ok (.aload_n 0, 1) := by decide +kernel
theorem dX9_takeTable_18 : decode cX9_takeTable 18 = .ok (.getfield 84, 3) := by decide +kernel
theorem dX9_takeTable_21 : decode cX9_takeTable 21 = .ok (.invokevirtual 107, 3) := by decide +kernel
theorem dX9_takeTable_24 : decode cX9_takeTable 24 = .ok (.istore_n 2, 1) := by decide +kernel
theorem dX9_takeTable_25 : decode cX9_takeTable 25 = .ok (.iload_n 2, 1) := by decide +kernel
theorem dX9_takeTable_26 : decode cX9_takeTable 26 = .ok (.iconst (-1), 1) := by decide +kernel
theorem dX9_takeTable_27 : decode cX9_takeTable 27 = .ok (.if_icmp .ne 11, 3) := by decide +kernel
theorem dX9_takeTable_30 : decode cX9_takeTable 30 = .ok (.aload_n 0, 1) := by decide +kernel
theorem dX9_takeTable_31 : decode cX9_takeTable 31 = .ok (.iconst 3, 1) := by decide +kernel
theorem dX9_takeTable_32 : decode cX9_takeTable 32 = .ok (.invokevirtual 99, 3) := by decide +kernel
theorem dX9_takeTable_35 : decode cX9_takeTable 35 = .ok (.pop, 1) := by decide +kernel
theorem dX9_takeTable_36 : decode cX9_takeTable 36 = .ok (.iconst (-1), 1) := by decide +kernel
theorem dX9_takeTable_37 : decode cX9_takeTable 37 = .ok (.ireturn, 1) := by decide +kernel
theorem dX9_takeTable_38 : decode cX9_takeTable 38 = .ok (.aload_n 0, 1) := by decide +kernel
theorem dX9_takeTable_39 : decode cX9_takeTable 39 = .ok (.invokevirtual 65, 3) := by decide +kernel
theorem dX9_takeTable_42 : decode cX9_takeTable 42 = .ok (.iload_n 2, 1) := by decide +kernel
theorem dX9_takeTable_43 : decode cX9_takeTable 43 = .ok (.ireturn, 1) := by decide +kernel
abbrev M_X9_takeTable : mM := (cX9_takeTable, 3, RX9, some .int, false, 2, 44, 0, 0)
theorem gX9_takeTable : cI yX9_takeTable M_X9_takeTable 1 := ⟨(wsl_18 _ (List.mem_of_getElem? (i := 11) rfl)), (wsl_18 _ (List.mem_of_getElem? (i := 12) rfl)), (wsl_1 _ (List.mem_of_getElem? (i := 15) rfl)), (wsl_18 _ (List.mem_of_getElem? (i := 13) rfl)), by decide +kernel⟩
noncomputable def fX9_takeTable (h : hH) (a0 a1 : Int) : Option (Int × hH) :=
  if h a0 5 = 4 then
    (fX4_tableNamed h a1 (h a0 7)).bind fun r21 =>
    if r21 = -1 then
      (fX9_fail h a0 3).bind fun q32 =>
      some (-1, q32.2)
    else
      (fX9_step h a0).bind fun h39 =>
      some (r21, h39)
  else
    (fX9_fail h a0 1).bind fun q10 =>
    some (-1, q10.2)
section M_X9_takeTable
variable {p : Program} {l : Launch} {e : Env} {R : Room} {s : State} {m : MethodId} {args : Array Value} {below : List Frame} {meth : Method} {c : Code} {D : va_G} {G : gG} {A : Nat → Prop} {H0 : Heap} {n0 : Int} {x : Option vV × hH} {h : hH}
set_option maxRecDepth 100000 in
set_option maxHeartbeats 4000000 in
theorem oX9_takeTable_b0 {a0 a1 : Int} {K : Int × hH → Prop} (k0 : ∀ r, K (r) → x = (some (0, r.1), r.2)) {r : Int × hH} (hr : fX9_takeTable h a0 a1 = some r) (hk : K r) : Wq p l e R s m args below meth c D G A H0 true n0 M_X9_takeTable x 0 0 0 [(0, (19, a0)), (1, (14, a1))] [] h := by
  unfold fX9_takeTable at hr
  refine r_aload_n dX9_takeTable_0 rfl 0 rfl (nl rfl) ?_
  refine r_get 9 5 (o := a0) (w := (0, h a0 5)) (T := TX9) (ref := "FollowingRefs$Text") rfl (by decide) rfl (by decide) inlX9 (wsl_15 _ (List.mem_of_getElem? (i := 22) rfl)) rfl dX9_takeTable_1 rfl ?_
  refine r_iconst dX9_takeTable_4 (by decide) ?_
  refine r_icmp_eq dX9_takeTable_5 (tgt := 16) (by decide) (fun hc => ?_) (fun hc => ?_)
  · have hr := ifp hr hc
    refine r_aload_n dX9_takeTable_16 rfl 1 rfl (nl rfl) ?_
    refine r_aload_n dX9_takeTable_17 rfl 0 rfl (nl rfl) ?_
    refine r_get 9 7 (o := a0) (w := (1, h a0 7)) (T := TX9) (ref := "FollowingRefs$Text") rfl (by decide) rfl (by decide) inlX9 (wsl_16 _ (List.mem_of_getElem? (i := 1) rfl)) rfl dX9_takeTable_18 rfl ?_
    obtain ⟨r21, hg21, hr⟩ := bnd hr
    refine k_V (ci := 4) (o := a1) (T := TX4) (as := [(1, h a0 7)]) (rest := []) (X := (some (0, r21), h)) (oX4_tableNamed hg21) gX4_tableNamed rfl (by decide) rfl (wsl_18 _ (List.mem_of_getElem? (i := 15) rfl)) rfl dX9_takeTable_21 rfl ?_
    refine r_istore_n dX9_takeTable_24 rfl (Or.inl rfl) (by decide) (lv' := [(2, (0, r21)), (0, (19, a0)), (1, (14, a1))]) rfl ?_
    refine r_iload_n dX9_takeTable_25 rfl 0 rfl (Or.inl rfl) ?_
    refine r_iconst dX9_takeTable_26 (by decide) ?_
    refine r_icmp_ne dX9_takeTable_27 (tgt := 38) (by decide) (fun hc => ?_) (fun hc => ?_)
    · have hr := ifn hr hc
      refine r_aload_n dX9_takeTable_38 rfl 1 rfl (nl rfl) ?_
      obtain ⟨h39, hg39, hr⟩ := bnd hr
      refine k_V (ci := 9) (o := a0) (T := TX9) (as := []) (rest := []) (X := (none, h39)) (oX9_step hg39) gX9_step rfl (by decide) rfl (wsl_15 _ (List.mem_of_getElem? (i := 17) rfl)) rfl dX9_takeTable_39 rfl ?_
      refine r_iload_n dX9_takeTable_42 rfl 0 rfl (Or.inl rfl) ?_
      obtain rfl := Option.some.inj hr
      exact r_ret dX9_takeTable_43 rfl (Or.inl ⟨rfl, rfl⟩) (k0 _ hk) ⟨rfl, rfl⟩
    · have hr := ifp hr hc
      refine r_aload_n dX9_takeTable_30 rfl 1 rfl (nl rfl) ?_
      refine r_iconst dX9_takeTable_31 (by decide) ?_
      obtain ⟨q32, hg32, hr⟩ := bnd hr
      refine k_V (ci := 9) (o := a0) (T := TX9) (as := [(0, 3)]) (rest := []) (X := (some (2, q32.1), q32.2)) (oX9_fail hg32) gX9_fail rfl (by decide) rfl (wsl_18 _ (List.mem_of_getElem? (i := 14) rfl)) rfl dX9_takeTable_32 rfl ?_
      refine r_pop dX9_takeTable_35 (Nat.ne_of_beq_eq_false rfl) ?_
      refine r_iconst dX9_takeTable_36 (by decide) ?_
      obtain rfl := Option.some.inj hr
      exact r_ret dX9_takeTable_37 rfl (Or.inl ⟨rfl, rfl⟩) (k0 _ hk) ⟨rfl, rfl⟩
  · have hr := ifn hr hc
    refine r_aload_n dX9_takeTable_8 rfl 0 rfl (nl rfl) ?_
    refine r_iconst dX9_takeTable_9 (by decide) ?_
    obtain ⟨q10, hg10, hr⟩ := bnd hr
    refine k_V (ci := 9) (o := a0) (T := TX9) (as := [(0, 1)]) (rest := []) (X := (some (2, q10.1), q10.2)) (oX9_fail hg10) gX9_fail rfl (by decide) rfl (wsl_18 _ (List.mem_of_getElem? (i := 14) rfl)) rfl dX9_takeTable_10 rfl ?_
    refine r_pop dX9_takeTable_13 (Nat.ne_of_beq_eq_false rfl) ?_
    refine r_iconst dX9_takeTable_14 (by decide) ?_
    obtain rfl := Option.some.inj hr
    exact r_ret dX9_takeTable_15 rfl (Or.inl ⟨rfl, rfl⟩) (k0 _ hk) ⟨rfl, rfl⟩
end M_X9_takeTable
theorem oX9_takeTable {l : Launch} {D : va_G} {G : gG} {h : hH} {a0 a1 : Int} {r : Int × hH} (hr : fX9_takeTable h a0 a1 = some r) : Ctr l D G true yX9_takeTable M_X9_takeTable [(19, a0), (14, a1)] h (some (0, r.1), r.2) :=
  Ctr_of (by decide) rfl (fun z => by cases z) (nl rfl) (fun {p e R s m args below meth c A H0} => by
    exact oX9_takeTable_b0 (K := fun z9 => z9 = r) (fun r9 z => by rw [z]) hr rfl)
/-! X9_takeNumber -/
theorem dX9_takeNumber_0 : decode cX9_takeNumber 0 = .ok (.aload_n 0, 1) := by decide +kernel
theorem dX9_takeNumber_1 : decode cX9_takeNumber 1 = .ok (.getfield 76, 3) := by decide +kernel
theorem dX9_takeNumber_4 : decode cX9_takeNumber 4 = .ok (.iconst 3, 1) := by decide +kernel
theorem dX9_takeNumber_5 : decode cX9_takeNumber 5 = .ok (.if_icmp .eq 11, 3) := by decide +kernel
theorem dX9_takeNumber_8 : decode cX9_takeNumber 8 = .ok (.aload_n 0, 1) := by decide +kernel
theorem dX9_takeNumber_9 : decode cX9_takeNumber 9 = .ok (.iconst 1, 1) := by decide +kernel
theorem dX9_takeNumber_10 : decode cX9_takeNumber 10 = .ok (.invokevirtual 99, 3) := by decide +kernel
theorem dX9_takeNumber_13 : decode cX9_takeNumber 13 = .ok (.pop, 1) := by decide +kernel
theorem dX9_takeNumber_14 : decode cX9_takeNumber 14 = .ok (.iconst (-1), 1) := by decide +kernel
theorem dX9_takeNumber_15 : decode cX9_takeNumber 15 = .ok (.ireturn, 1) := by decide +kernel
theorem dX9_takeNumber_16 : decode cX9_takeNumber 16 = .ok (.aload_n 0, 1) := by decide +kernel
theorem dX9_takeNumber_17 : decode cX9_takeNumber 17 = .ok (.getfield 84, 3) := by decide +kernel
theorem dX9_takeNumber_20 : decode cX9_takeNumber 20 = .ok (.ldc2_w 102, 3) := by decide +kernel
theorem dX9_takeNumber_23 : decode cX9_takeNumber 23 = .ok (.lcmp, 1) := by decide +kernel
theorem dX9_takeNumber_24 : decode cX9_takeNumber 24 = .ok (.ifCond .le 11, 3) := by decide +kernel
theorem dX9_takeNumber_27 : decode cX9_takeNumber 27 = .ok (.aload_n 0, 1) := by decide +kernel
theorem dX9_takeNumber_28 : decode cX9_takeNumber 28 = .ok (.iconst 2, 1) := by decide +kernel
theorem dX9_takeNumber_29 : decode cX9_takeNumber 29 = .ok (.invokevirtual 99, 3) := by decide +kernel
theorem dX9_takeNumber_32 : decode cX9_takeNumber 32 = .ok (.pop, 1) := by decide +kernel
theorem dX9_takeNumber_33 : decode cX9_takeNumber 33 = .ok (.iconst (-1), 1) := by decide +kernel
theorem dX9_takeNumber_34 : decode cX9_takeNumber 34 = .ok (.ireturn, 1) := by decide +kernel
theorem dX9_takeNumber_35 : decode cX9_takeNumber 35 = .ok (.aload_n 0, 1) := by decide +kernel
theorem dX9_takeNumber_36 : decode cX9_takeNumber 36 = .ok (.getfield 84, 3) := by decide +kernel
theorem dX9_takeNumber_39 : decode cX9_takeNumber 39 = .ok (.l2i, 1) := by decide +kernel
theorem dX9_takeNumber_40 : decode cX9_takeNumber 40 = .ok (.istore_n 1, 1) := by decide +kernel
theorem dX9_takeNumber_41 : decode cX9_takeNumber 41 = .ok (.aload_n 0, 1) := by decide +kernel
theorem dX9_takeNumber_42 : decode cX9_takeNumber 42 = .ok (.invokevirtual 65, 3) := by decide +kernel
theorem dX9_takeNumber_45 : decode cX9_takeNumber 45 = .ok (.iload_n 1, 1) := by decide +kernel
theorem dX9_takeNumber_46 : decode cX9_takeNumber 46 = .ok (.ireturn, 1) := by decide +kernel
abbrev M_X9_takeNumber : mM := (cX9_takeNumber, 2, RX9, some .int, false, 1, 22, 0, 0)
theorem gX9_takeNumber : cI yX9_takeNumber M_X9_takeNumber 0 := ⟨(wsl_21 _ (List.mem_of_getElem? (i := 3) rfl)), (wsl_21 _ (List.mem_of_getElem? (i := 4) rfl)), (wsl_1 _ (List.mem_of_getElem? (i := 15) rfl)), (wsl_21 _ (List.mem_of_getElem? (i := 5) rfl)), by decide +kernel⟩
noncomputable def fX9_takeNumber (h : hH) (a0 : Int) : Option (Int × hH) :=
  if h a0 5 = 3 then
    if 0 < lcmD (h a0 7) 99 then
      (fX9_fail h a0 2).bind fun q29 =>
      some (-1, q29.2)
    else
      (fX9_step h a0).bind fun h42 =>
      some (w32 (h a0 7), h42)
  else
    (fX9_fail h a0 1).bind fun q10 =>
    some (-1, q10.2)
section M_X9_takeNumber
variable {p : Program} {l : Launch} {e : Env} {R : Room} {s : State} {m : MethodId} {args : Array Value} {below : List Frame} {meth : Method} {c : Code} {D : va_G} {G : gG} {A : Nat → Prop} {H0 : Heap} {n0 : Int} {x : Option vV × hH} {h : hH}
set_option maxRecDepth 100000 in
set_option maxHeartbeats 4000000 in
theorem oX9_takeNumber_b0 {a0 : Int} {K : Int × hH → Prop} (k0 : ∀ r, K (r) → x = (some (0, r.1), r.2)) {r : Int × hH} (hr : fX9_takeNumber h a0 = some r) (hk : K r) : Wq p l e R s m args below meth c D G A H0 true n0 M_X9_takeNumber x 0 0 0 [(0, (19, a0))] [] h := by
  unfold fX9_takeNumber at hr
  refine r_aload_n dX9_takeNumber_0 rfl 0 rfl (nl rfl) ?_
  refine r_get 9 5 (o := a0) (w := (0, h a0 5)) (T := TX9) (ref := "FollowingRefs$Text") rfl (by decide) rfl (by decide) inlX9 (wsl_15 _ (List.mem_of_getElem? (i := 22) rfl)) rfl dX9_takeNumber_1 rfl ?_
  refine r_iconst dX9_takeNumber_4 (by decide) ?_
  refine r_icmp_eq dX9_takeNumber_5 (tgt := 16) (by decide) (fun hc => ?_) (fun hc => ?_)
  · have hr := ifp hr hc
    refine r_aload_n dX9_takeNumber_16 rfl 0 rfl (nl rfl) ?_
    refine r_get 9 7 (o := a0) (w := (1, h a0 7)) (T := TX9) (ref := "FollowingRefs$Text") rfl (by decide) rfl (by decide) inlX9 (wsl_16 _ (List.mem_of_getElem? (i := 1) rfl)) rfl dX9_takeNumber_17 rfl ?_
    refine r_ldc2' (v := 99) dX9_takeNumber_20 (by decide) (wsl_21 _ (List.mem_of_getElem? (i := 6) rfl)) ?_
    refine r_lcmp dX9_takeNumber_23 ?_
    refine r_if_le dX9_takeNumber_24 (tgt := 35) (by decide) (fun hc => ?_) (fun hc => ?_)
    · have hr := ifn hr hc
      refine r_aload_n dX9_takeNumber_35 rfl 0 rfl (nl rfl) ?_
      refine r_get 9 7 (o := a0) (w := (1, h a0 7)) (T := TX9) (ref := "FollowingRefs$Text") rfl (by decide) rfl (by decide) inlX9 (wsl_16 _ (List.mem_of_getElem? (i := 1) rfl)) rfl dX9_takeNumber_36 rfl ?_
      refine r_l2i dX9_takeNumber_39 ?_
      refine r_istore_n dX9_takeNumber_40 rfl (Or.inl rfl) (by decide) (lv' := [(1, (0, w32 (h a0 7))), (0, (19, a0))]) rfl ?_
      refine r_aload_n dX9_takeNumber_41 rfl 1 rfl (nl rfl) ?_
      obtain ⟨h42, hg42, hr⟩ := bnd hr
      refine k_V (ci := 9) (o := a0) (T := TX9) (as := []) (rest := []) (X := (none, h42)) (oX9_step hg42) gX9_step rfl (by decide) rfl (wsl_15 _ (List.mem_of_getElem? (i := 17) rfl)) rfl dX9_takeNumber_42 rfl ?_
      refine r_iload_n dX9_takeNumber_45 rfl 0 rfl (Or.inl rfl) ?_
      obtain rfl := Option.some.inj hr
      exact r_ret dX9_takeNumber_46 rfl (Or.inl ⟨rfl, rfl⟩) (k0 _ hk) ⟨rfl, rfl⟩
    · have hr := ifp hr hc
      refine r_aload_n dX9_takeNumber_27 rfl 0 rfl (nl rfl) ?_
      refine r_iconst dX9_takeNumber_28 (by decide) ?_
      obtain ⟨q29, hg29, hr⟩ := bnd hr
      refine k_V (ci := 9) (o := a0) (T := TX9) (as := [(0, 2)]) (rest := []) (X := (some (2, q29.1), q29.2)) (oX9_fail hg29) gX9_fail rfl (by decide) rfl (wsl_18 _ (List.mem_of_getElem? (i := 14) rfl)) rfl dX9_takeNumber_29 rfl ?_
      refine r_pop dX9_takeNumber_32 (Nat.ne_of_beq_eq_false rfl) ?_
      refine r_iconst dX9_takeNumber_33 (by decide) ?_
      obtain rfl := Option.some.inj hr
      exact r_ret dX9_takeNumber_34 rfl (Or.inl ⟨rfl, rfl⟩) (k0 _ hk) ⟨rfl, rfl⟩
  · have hr := ifn hr hc
    refine r_aload_n dX9_takeNumber_8 rfl 0 rfl (nl rfl) ?_
    refine r_iconst dX9_takeNumber_9 (by decide) ?_
    obtain ⟨q10, hg10, hr⟩ := bnd hr
    refine k_V (ci := 9) (o := a0) (T := TX9) (as := [(0, 1)]) (rest := []) (X := (some (2, q10.1), q10.2)) (oX9_fail hg10) gX9_fail rfl (by decide) rfl (wsl_18 _ (List.mem_of_getElem? (i := 14) rfl)) rfl dX9_takeNumber_10 rfl ?_
    refine r_pop dX9_takeNumber_13 (Nat.ne_of_beq_eq_false rfl) ?_
    refine r_iconst dX9_takeNumber_14 (by decide) ?_
    obtain rfl := Option.some.inj hr
    exact r_ret dX9_takeNumber_15 rfl (Or.inl ⟨rfl, rfl⟩) (k0 _ hk) ⟨rfl, rfl⟩
end M_X9_takeNumber
theorem oX9_takeNumber {l : Launch} {D : va_G} {G : gG} {h : hH} {a0 : Int} {r : Int × hH} (hr : fX9_takeNumber h a0 = some r) : Ctr l D G true yX9_takeNumber M_X9_takeNumber [(19, a0)] h (some (0, r.1), r.2) :=
  Ctr_of (by decide) rfl (fun z => by cases z) (nl rfl) (fun {p e R s m args below meth c A H0} => by
    exact oX9_takeNumber_b0 (K := fun z9 => z9 = r) (fun r9 z => by rw [z]) hr rfl)
