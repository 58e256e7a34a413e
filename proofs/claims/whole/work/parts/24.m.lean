/-! X7_readComparison -/
theorem dX7_readComparison_0 : decode cX7_readComparison 0 = .ok (.aload_n 0, 1) := by decide +kernel
theorem dX7_readComparison_1 : decode cX7_readComparison 1 = .ok (.getfield 18, 3) := by decide +kernel
theorem dX7_readComparison_4 : decode cX7_readComparison 4 = .ok (.invokevirtual 90, 3) := by decide +kernel
theorem dX7_readComparison_7 : decode cX7_readComparison 7 = .ok (.istore_n 2, 1) := by decide +kernel
theorem dX7_readComparison_8 : decode cX7_readComparison 8 = .ok (.iload_n 2, 1) := by decide +kernel
theorem dX7_readComparison_9 : decode cX7_readComparison 9 = .ok (.iconst (-1), 1) := by decide +kernel
theorem dX7_readComparison_10 : decode cX7_readComparison 10 = .ok (.if_icmp .ne 7, 3) := by decide +kernel
theorem dX7_readComparison_13 : decode cX7_readComparison 13 = .ok (.iconst (-1), 1) := by decide +kernel
theorem dX7_readComparison_14 : decode cX7_readComparison 14 = .ok (.goto 10, 3) := by decide +kernel
theorem dX7_readComparison_17 : decode cX7_readComparison 17 = .ok (.aload_n 0, 1) := by decide +kernel
theorem dX7_readComparison_18 : decode cX7_readComparison 18 = .ok (.getfield 18, 3) := by decide +kernel
theorem dX7_readComparison_21 : decode cX7_readComparison 21 = .ok (.invokevirtual 94, 3) := by decide +kernel
theorem dX7_readComparison_24 : decode cX7_readComparison 24 = .ok (.istore_n 3, 1) := by decide +kernel
theorem dX7_readComparison_25 : decode cX7_readComparison 25 = .ok (.aload_n 0, 1) := by decide +kernel
theorem dX7_readComparison_26 : decode cX7_readComparison 26 = .ok (.getfield 12, 3) := by decide +kernel
theorem dX7_readComparison_29 : decode cX7_readComparison 29 = .ok (.iload_n 1, 1) := by decide +kernel
theorem dX7_readComparison_30 : decode cX7_readComparison 30 = .ok (.iload_n 2, 1) := by decide +kernel
theorem dX7_readComparison_31 : decode cX7_readComparison 31 = .ok (.iload_n 3, 1) := by decide +kernel
theorem dX7_readComparison_32 : decode cX7_readComparison 32 = .ok (.invokevirtual 56, 3) := by decide +kernel
theorem dX7_readComparison_35 : decode cX7_readComparison 35 = .ok (.iload_n 3, 1) := by decide +kernel
theorem dX7_readComparison_36 : decode cX7_readComparison 36 = .ok (.iconst (-1), 1) := by decide +kernel
theorem dX7_readComparison_37 : decode cX7_readComparison 37 = .ok (.if_icmp .eq 7, 3) := by decide +kernel
theorem dX7_readComparison_40 : decode cX7_readComparison 40 = .ok (.iconst 1, 1) := by decide +kernel
theorem dX7_readComparison_41 : decode cX7_readComparison 41 = .ok (.goto 4, 3) := by decide +kernel
theorem dX7_readComparison_44 : decode cX7_readComparison 44 = .ok (.iconst 0, 1) := by decide +kernel
theorem dX7_readComparison_45 : decode cX7_readComparison 45 = .ok (.ireturn, 1) := by decide +kernel
abbrev M_X7_readComparison : mM := (cX7_readComparison, 4, RX7, some .boolean, false, 2, 45, 0, 0)
theorem gX7_readComparison : cI yX7_readComparison M_X7_readComparison 1 := ⟨(wsl_68 _ (List.mem_of_getElem? (i := 9) rfl)), (wsl_68 _ (List.mem_of_getElem? (i := 10) rfl)), (wsl_2 _ (List.mem_of_getElem? (i := 11) rfl)), (wsl_68 _ (List.mem_of_getElem? (i := 11) rfl)), by decide +kernel⟩
noncomputable def fX7_readComparison_b24 (h : hH) (a0 a1 l2 s0 : Int) : Option (Int × hH) :=
  (fX6_add h (h a0 2) a1 l2 s0).bind fun h32 =>
  if s0 = -1 then
    some (0, h32)
  else
    some (1, h32)
noncomputable def fX7_readComparison (h : hH) (a0 a1 : Int) : Option (Int × hH) :=
  (fX9_takeComparison h (h a0 0)).bind fun q4 =>
  if q4.1 = -1 then
    fX7_readComparison_b24 q4.2 a0 a1 q4.1 (-1)
  else
    (fX9_takeNumber q4.2 (q4.2 a0 0)).bind fun q21 =>
    fX7_readComparison_b24 q21.2 a0 a1 q4.1 q21.1
section M_X7_readComparison
variable {p : Program} {l : Launch} {e : Env} {R : Room} {s : State} {m : MethodId} {args : Array Value} {below : List Frame} {meth : Method} {c : Code} {D : va_G} {G : gG} {A : Nat → Prop} {H0 : Heap} {n0 : Int} {x : Option vV × hH} {h : hH}
set_option maxRecDepth 100000 in
set_option maxHeartbeats 4000000 in
theorem oX7_readComparison_b24 {a0 a1 l2 s0 : Int} {K : Int × hH → Prop} (k0 : ∀ r, K (r) → x = (some (2, r.1), r.2)) {r : Int × hH} (hr : fX7_readComparison_b24 h a0 a1 l2 s0 = some r) (hk : K r) : Wq p l e R s m args below meth c D G A H0 true n0 M_X7_readComparison x 0 0 24 [(0, (17, a0)), (1, (0, a1)), (2, (0, l2))] [(0, s0)] h := by
  unfold fX7_readComparison_b24 at hr
  refine r_istore_n dX7_readComparison_24 rfl (Or.inl rfl) (by decide) (lv' := [(3, (0, s0)), (0, (17, a0)), (1, (0, a1)), (2, (0, l2))]) rfl ?_
  refine r_aload_n dX7_readComparison_25 rfl 1 rfl (nl rfl) ?_
  refine r_get 7 2 (o := a0) (w := (16, h a0 2)) (T := TX7) (ref := "FollowingRefs$SentenceReader") rfl (by decide) rfl (by decide) inlX7 (wsl_5 _ (List.mem_of_getElem? (i := 6) rfl)) rfl dX7_readComparison_26 rfl ?_
  refine r_iload_n dX7_readComparison_29 rfl 2 rfl (Or.inl rfl) ?_
  refine r_iload_n dX7_readComparison_30 rfl 3 rfl (Or.inl rfl) ?_
  refine r_iload_n dX7_readComparison_31 rfl 0 rfl (Or.inl rfl) ?_
  obtain ⟨h32, hg32, hr⟩ := bnd hr
  refine k_V (ci := 6) (o := h a0 2) (T := TX6) (as := [(0, a1), (0, l2), (0, s0)]) (rest := []) (X := (none, h32)) (oX6_add hg32) gX6_add rfl (by decide) rfl (wsl_67 _ (List.mem_of_getElem? (i := 9) rfl)) rfl dX7_readComparison_32 rfl ?_
  refine r_iload_n dX7_readComparison_35 rfl 0 rfl (Or.inl rfl) ?_
  refine r_iconst dX7_readComparison_36 (by decide) ?_
  refine r_icmp_eq dX7_readComparison_37 (tgt := 44) (by decide) (fun hc => ?_) (fun hc => ?_)
  · have hr := ifp hr hc
    refine r_iconst dX7_readComparison_44 (by decide) ?_
    refine r_scast 0 (v := (0, 0)) (w := (2, 0)) rfl cz (fun _ => Or.inl rfl) (st' := [(2, 0)]) rfl ?_
    obtain rfl := Option.some.inj hr
    exact r_ret dX7_readComparison_45 rfl (Or.inr ⟨rfl, rfl⟩) (k0 _ hk) ⟨rfl, rfl⟩
  · have hr := ifn hr hc
    refine r_iconst dX7_readComparison_40 (by decide) ?_
    refine r_goto dX7_readComparison_41 (tgt := 45) (by decide) ?_
    refine r_scast 0 (v := (0, 1)) (w := (2, 1)) rfl cz (fun _ => Or.inr rfl) (st' := [(2, 1)]) rfl ?_
    obtain rfl := Option.some.inj hr
    exact r_ret dX7_readComparison_45 rfl (Or.inr ⟨rfl, rfl⟩) (k0 _ hk) ⟨rfl, rfl⟩
set_option maxRecDepth 100000 in
set_option maxHeartbeats 4000000 in
theorem oX7_readComparison_b0 {a0 a1 : Int} {K : Int × hH → Prop} (k0 : ∀ r, K (r) → x = (some (2, r.1), r.2)) {r : Int × hH} (hr : fX7_readComparison h a0 a1 = some r) (hk : K r) : Wq p l e R s m args below meth c D G A H0 true n0 M_X7_readComparison x 0 0 0 [(0, (17, a0)), (1, (0, a1))] [] h := by
  unfold fX7_readComparison at hr
  refine r_aload_n dX7_readComparison_0 rfl 0 rfl (nl rfl) ?_
  refine r_get 7 0 (o := a0) (w := (19, h a0 0)) (T := TX7) (ref := "FollowingRefs$SentenceReader") rfl (by decide) rfl (by decide) inlX7 (wsl_5 _ (List.mem_of_getElem? (i := 7) rfl)) rfl dX7_readComparison_1 rfl ?_
  obtain ⟨q4, hg4, hr⟩ := bnd hr
  refine k_V (ci := 9) (o := h a0 0) (T := TX9) (as := []) (rest := []) (X := (some (0, q4.1), q4.2)) (oX9_takeComparison hg4) gX9_takeComparison rfl (by decide) rfl (wsl_68 _ (List.mem_of_getElem? (i := 12) rfl)) rfl dX7_readComparison_4 rfl ?_
  refine r_istore_n dX7_readComparison_7 rfl (Or.inl rfl) (by decide) (lv' := [(2, (0, q4.1)), (0, (17, a0)), (1, (0, a1))]) rfl ?_
  refine r_iload_n dX7_readComparison_8 rfl 0 rfl (Or.inl rfl) ?_
  refine r_iconst dX7_readComparison_9 (by decide) ?_
  refine r_icmp_ne dX7_readComparison_10 (tgt := 17) (by decide) (fun hc => ?_) (fun hc => ?_)
  · have hr := ifn hr hc
    refine r_aload_n dX7_readComparison_17 rfl 1 rfl (nl rfl) ?_
    refine r_get 7 0 (o := a0) (w := (19, q4.2 a0 0)) (T := TX7) (ref := "FollowingRefs$SentenceReader") rfl (by decide) rfl (by decide) inlX7 (wsl_5 _ (List.mem_of_getElem? (i := 7) rfl)) rfl dX7_readComparison_18 rfl ?_
    obtain ⟨q21, hg21, hr⟩ := bnd hr
    refine k_V (ci := 9) (o := q4.2 a0 0) (T := TX9) (as := []) (rest := []) (X := (some (0, q21.1), q21.2)) (oX9_takeNumber hg21) gX9_takeNumber rfl (by decide) rfl (wsl_68 _ (List.mem_of_getElem? (i := 13) rfl)) rfl dX7_readComparison_21 rfl ?_
    refine r_sub [1, 2, 0] (lv' := [(0, (17, a0)), (1, (0, a1)), (2, (0, q4.1))]) rfl ?_
    exact oX7_readComparison_b24 (K := K) (fun r z => k0 r z) hr hk
  · have hr := ifp hr hc
    refine r_iconst dX7_readComparison_13 (by decide) ?_
    refine r_goto dX7_readComparison_14 (tgt := 24) (by decide) ?_
    refine r_sub [1, 2, 0] (lv' := [(0, (17, a0)), (1, (0, a1)), (2, (0, q4.1))]) rfl ?_
    exact oX7_readComparison_b24 (K := K) (fun r z => k0 r z) hr hk
end M_X7_readComparison
theorem oX7_readComparison {l : Launch} {D : va_G} {G : gG} {h : hH} {a0 a1 : Int} {r : Int × hH} (hr : fX7_readComparison h a0 a1 = some r) : Ctr l D G true yX7_readComparison M_X7_readComparison [(17, a0), (0, a1)] h (some (2, r.1), r.2) :=
  Ctr_of (by decide) rfl (fun z => by cases z) (nl rfl) (fun {p e R s m args below meth c A H0} => by
    exact oX7_readComparison_b0 (K := fun z9 => z9 = r) (fun r9 z => by rw [z]) hr rfl)
/-! X8_reset -/
theorem dX8_reset_0 : decode cX8_reset 0 = .ok (.aload_n 0, 1) := by decide +kernel
theorem dX8_reset_1 : decode cX8_reset 1 = .ok (.getfield 10, 3) := by decide +kernel
theorem dX8_reset_4 : decode cX8_reset 4 = .ok (.invokevirtual 19, 3) := by decide +kernel
theorem dX8_reset_7 : decode cX8_reset 7 = .ok (.aload_n 0, 1) := by decide +kernel
theorem dX8_reset_8 : decode cX8_reset 8 = .ok (.getfield 16, 3) := by decide +kernel
theorem dX8_reset_11 : decode cX8_reset 11 = .ok (.invokevirtual 19, 3) := by decide +kernel
theorem dX8_reset_14 : decode cX8_reset 14 = .ok (.aload_n 0, 1) := by decide +kernel
theorem dX8_reset_15 : decode cX8_reset 15 = .ok (.iconst 0, 1) := by decide +kernel
theorem dX8_reset_16 : decode cX8_reset 16 = .ok (.putfield 22, 3) := by decide +kernel
theorem dX8_reset_19 : decode cX8_reset 19 = .ok (.return_, 1) := by decide +kernel
abbrev M_X8_reset : mM := (cX8_reset, 1, RX8, none, false, 1, 20, 0, 0)
theorem gX8_reset : cI yX8_reset M_X8_reset 0 := ⟨(wsl_22 _ (List.mem_of_getElem? (i := 15) rfl)), (wsl_22 _ (List.mem_of_getElem? (i := 16) rfl)), (wsl_1 _ (List.mem_of_getElem? (i := 23) rfl)), (wsl_22 _ (List.mem_of_getElem? (i := 17) rfl)), by decide +kernel⟩
noncomputable def fX8_reset (h : hH) (a0 : Int) : Option (hH) :=
  (fX3_reset h (h a0 0)).bind fun h4 =>
  (fX3_reset h4 (h4 a0 1)).bind fun h11 =>
  (pput h11 a0 2 0).bind fun h16 =>
  some h16
section M_X8_reset
variable {p : Program} {l : Launch} {e : Env} {R : Room} {s : State} {m : MethodId} {args : Array Value} {below : List Frame} {meth : Method} {c : Code} {D : va_G} {G : gG} {A : Nat → Prop} {H0 : Heap} {n0 : Int} {x : Option vV × hH} {h : hH}
set_option maxRecDepth 100000 in
set_option maxHeartbeats 4000000 in
theorem oX8_reset_b0 {a0 : Int} {K : hH → Prop} (k0 : ∀ r, K (r) → x = (none, r)) {r : hH} (hr : fX8_reset h a0 = some r) (hk : K r) : Wq p l e R s m args below meth c D G A H0 true n0 M_X8_reset x 0 0 0 [(0, (18, a0))] [] h := by
  unfold fX8_reset at hr
  refine r_aload_n dX8_reset_0 rfl 0 rfl (nl rfl) ?_
  refine r_get 8 0 (o := a0) (w := (13, h a0 0)) (T := TX8) (ref := "FollowingRefs$State") rfl (by decide) rfl (by decide) inlX8 (wsl_4 _ (List.mem_of_getElem? (i := 6) rfl)) rfl dX8_reset_1 rfl ?_
  obtain ⟨h4, hg4, hr⟩ := bnd hr
  refine k_V (ci := 3) (o := h a0 0) (T := TX3) (as := []) (rest := []) (X := (none, h4)) (oX3_reset hg4) gX3_reset rfl (by decide) rfl (wsl_22 _ (List.mem_of_getElem? (i := 19) rfl)) rfl dX8_reset_4 rfl ?_
  refine r_aload_n dX8_reset_7 rfl 0 rfl (nl rfl) ?_
  refine r_get 8 1 (o := a0) (w := (13, h4 a0 1)) (T := TX8) (ref := "FollowingRefs$State") rfl (by decide) rfl (by decide) inlX8 (wsl_4 _ (List.mem_of_getElem? (i := 7) rfl)) rfl dX8_reset_8 rfl ?_
  obtain ⟨h11, hg11, hr⟩ := bnd hr
  refine k_V (ci := 3) (o := h4 a0 1) (T := TX3) (as := []) (rest := []) (X := (none, h11)) (oX3_reset hg11) gX3_reset rfl (by decide) rfl (wsl_22 _ (List.mem_of_getElem? (i := 19) rfl)) rfl dX8_reset_11 rfl ?_
  refine r_aload_n dX8_reset_14 rfl 0 rfl (nl rfl) ?_
  refine r_iconst dX8_reset_15 (by decide) ?_
  refine r_scast 0 (v := (0, 0)) (w := (2, 0)) rfl cz (fun _ => Or.inl rfl) (st' := [(2, 0), (18, a0)]) rfl ?_
  obtain ⟨h16, hg16, hr⟩ := bnd hr
  refine r_put' 8 2 (t := 2) (ref := "FollowingRefs$State") hg16 rfl tyX8 tyX8_ok nmX8 rfl (by decide) rfl (by decide) inlX8 (wsl_22 _ (List.mem_of_getElem? (i := 18) rfl)) rfl rfl (by decide +kernel) (by decide) rfl (Or.inr (Or.inr (Or.inl ⟨rfl, rfl⟩))) dX8_reset_16 ?_
  obtain rfl := Option.some.inj hr
  exact r_vret dX8_reset_19 rfl (k0 _ hk) ⟨rfl, rfl⟩
end M_X8_reset
theorem oX8_reset {l : Launch} {D : va_G} {G : gG} {h : hH} {a0 : Int} {r : hH} (hr : fX8_reset h a0 = some r) : Ctr l D G true yX8_reset M_X8_reset [(18, a0)] h (none, r) :=
  Ctr_of (by decide) rfl (fun z => by cases z) (nl rfl) (fun {p e R s m args below meth c A H0} => by
    exact oX8_reset_b0 (K := fun z9 => z9 = r) (fun r9 z => by rw [z]) hr rfl)
/-! X8_copyFrom -/
theorem dX8_copyFrom_0 : decode cX8_copyFrom 0 = .ok (.aload_n 0, 1) := by decide +kernel
theorem dX8_copyFrom_1 : decode cX8_copyFrom 1 = .ok (.getfield 10, 3) := by decide +kernel
theorem dX8_copyFrom_4 : decode cX8_copyFrom 4 = .ok (.aload_n 1, 1) := by decide +kernel
theorem dX8_copyFrom_5 : decode cX8_copyFrom 5 = .ok (.getfield 10, 3) := by decide +kernel
theorem dX8_copyFrom_8 : decode cX8_copyFrom 8 = .ok (.invokevirtual 26, 3) := by decide +kernel
theorem dX8_copyFrom_11 : decode cX8_copyFrom 11 = .ok (.aload_n 0, 1) := by decide +kernel
theorem dX8_copyFrom_12 : decode cX8_copyFrom 12 = .ok (.getfield 16, 3) := by decide +kernel
theorem dX8_copyFrom_15 : decode cX8_copyFrom 15 = .ok (.aload_n 1, 1) := by decide +kernel
theorem dX8_copyFrom_16 : decode cX8_copyFrom 16 = .ok (.getfield 16, 3) := by decide +kernel
theorem dX8_copyFrom_19 : decode cX8_copyFrom 19 = .ok (.invokevirtual 26, 3) := by decide +kernel
theorem dX8_copyFrom_22 : decode cX8_copyFrom 22 = .ok (.aload_n 0, 1) := by decide +kernel
theorem dX8_copyFrom_23 : decode cX8_copyFrom 23 = .ok (.aload_n 1, 1) := by decide +kernel
theorem dX8_copyFrom_24 : decode cX8_copyFrom 24 = .ok (.getfield 22, 3) := by decide +kernel
theorem dX8_copyFrom_27 : decode cX8_copyFrom 27 = .ok (.putfield 22, 3) := by decide +kernel
theorem dX8_copyFrom_30 : decode cX8_copyFrom 30 = .ok (.return_, 1) := by decide +kernel
abbrev M_X8_copyFrom : mM := (cX8_copyFrom, 2, RX8, none, false, 3, 126, 0, 0)
theorem gX8_copyFrom : cI yX8_copyFrom M_X8_copyFrom 1 := ⟨(wsl_40 _ (List.mem_of_getElem? (i := 2) rfl)), (wsl_40 _ (List.mem_of_getElem? (i := 3) rfl)), (wsl_1 _ (List.mem_of_getElem? (i := 23) rfl)), (wsl_40 _ (List.mem_of_getElem? (i := 4) rfl)), by decide +kernel⟩
noncomputable def fX8_copyFrom (h : hH) (a0 a1 : Int) : Option (hH) :=
  (fX3_copyFrom h (h a0 0) (h a1 0)).bind fun h8 =>
  (fX3_copyFrom h8 (h8 a0 1) (h8 a1 1)).bind fun h19 =>
  (pput h19 a0 2 (h19 a1 2)).bind fun h27 =>
  some h27
section M_X8_copyFrom
variable {p : Program} {l : Launch} {e : Env} {R : Room} {s : State} {m : MethodId} {args : Array Value} {below : List Frame} {meth : Method} {c : Code} {D : va_G} {G : gG} {A : Nat → Prop} {H0 : Heap} {n0 : Int} {x : Option vV × hH} {h : hH}
set_option maxRecDepth 100000 in
set_option maxHeartbeats 4000000 in
theorem oX8_copyFrom_b0 {a0 a1 : Int} {K : hH → Prop} (k0 : ∀ r, K (r) → x = (none, r)) {r : hH} (hr : fX8_copyFrom h a0 a1 = some r) (hk : K r) : Wq p l e R s m args below meth c D G A H0 true n0 M_X8_copyFrom x 0 0 0 [(0, (18, a0)), (1, (18, a1))] [] h := by
  unfold fX8_copyFrom at hr
  refine r_aload_n dX8_copyFrom_0 rfl 0 rfl (nl rfl) ?_
  refine r_get 8 0 (o := a0) (w := (13, h a0 0)) (T := TX8) (ref := "FollowingRefs$State") rfl (by decide) rfl (by decide) inlX8 (wsl_4 _ (List.mem_of_getElem? (i := 6) rfl)) rfl dX8_copyFrom_1 rfl ?_
  refine r_aload_n dX8_copyFrom_4 rfl 1 rfl (nl rfl) ?_
  refine r_get 8 0 (o := a1) (w := (13, h a1 0)) (T := TX8) (ref := "FollowingRefs$State") rfl (by decide) rfl (by decide) inlX8 (wsl_4 _ (List.mem_of_getElem? (i := 6) rfl)) rfl dX8_copyFrom_5 rfl ?_
  obtain ⟨h8, hg8, hr⟩ := bnd hr
  refine k_V (ci := 3) (o := h a0 0) (T := TX3) (as := [(13, h a1 0)]) (rest := []) (X := (none, h8)) (oX3_copyFrom hg8) gX3_copyFrom rfl (by decide) rfl (wsl_40 _ (List.mem_of_getElem? (i := 5) rfl)) rfl dX8_copyFrom_8 rfl ?_
  refine r_aload_n dX8_copyFrom_11 rfl 0 rfl (nl rfl) ?_
  refine r_get 8 1 (o := a0) (w := (13, h8 a0 1)) (T := TX8) (ref := "FollowingRefs$State") rfl (by decide) rfl (by decide) inlX8 (wsl_4 _ (List.mem_of_getElem? (i := 7) rfl)) rfl dX8_copyFrom_12 rfl ?_
  refine r_aload_n dX8_copyFrom_15 rfl 1 rfl (nl rfl) ?_
  refine r_get 8 1 (o := a1) (w := (13, h8 a1 1)) (T := TX8) (ref := "FollowingRefs$State") rfl (by decide) rfl (by decide) inlX8 (wsl_4 _ (List.mem_of_getElem? (i := 7) rfl)) rfl dX8_copyFrom_16 rfl ?_
  obtain ⟨h19, hg19, hr⟩ := bnd hr
  refine k_V (ci := 3) (o := h8 a0 1) (T := TX3) (as := [(13, h8 a1 1)]) (rest := []) (X := (none, h19)) (oX3_copyFrom hg19) gX3_copyFrom rfl (by decide) rfl (wsl_40 _ (List.mem_of_getElem? (i := 5) rfl)) rfl dX8_copyFrom_19 rfl ?_
  refine r_aload_n dX8_copyFrom_22 rfl 0 rfl (nl rfl) ?_
  refine r_aload_n dX8_copyFrom_23 rfl 1 rfl (nl rfl) ?_
  refine r_get 8 2 (o := a1) (w := (2, h19 a1 2)) (T := TX8) (ref := "FollowingRefs$State") rfl (by decide) rfl (by decide) inlX8 (wsl_22 _ (List.mem_of_getElem? (i := 18) rfl)) rfl dX8_copyFrom_24 rfl ?_
  obtain ⟨h27, hg27, hr⟩ := bnd hr
  refine r_put' 8 2 (t := 2) (ref := "FollowingRefs$State") hg27 rfl tyX8 tyX8_ok nmX8 rfl (by decide) rfl (by decide) inlX8 (wsl_22 _ (List.mem_of_getElem? (i := 18) rfl)) rfl rfl (by decide +kernel) (by decide) rfl (Or.inr (Or.inr (Or.inl ⟨rfl, rfl⟩))) dX8_copyFrom_27 ?_
  obtain rfl := Option.some.inj hr
  exact r_vret dX8_copyFrom_30 rfl (k0 _ hk) ⟨rfl, rfl⟩
end M_X8_copyFrom
theorem oX8_copyFrom {l : Launch} {D : va_G} {G : gG} {h : hH} {a0 a1 : Int} {r : hH} (hr : fX8_copyFrom h a0 a1 = some r) : Ctr l D G true yX8_copyFrom M_X8_copyFrom [(18, a0), (18, a1)] h (none, r) :=
  Ctr_of (by decide) rfl (fun z => by cases z) (nl rfl) (fun {p e R s m args below meth c A H0} => by
    exact oX8_copyFrom_b0 (K := fun z9 => z9 = r) (fun r9 z => by rw [z]) hr rfl)
/-! X8_start -/
theorem dX8_start_0 : decode cX8_start 0 = .ok (.aload_n 0, 1) := by decide +kernel
theorem dX8_start_1 : decode cX8_start 1 = .ok (.getfield 22, 3) := by decide +kernel
theorem dX8_start_4 : decode cX8_start 4 = .ok (.ifCond .eq 5, 3) := by decide +kernel
theorem dX8_start_7 : decode cX8_start 7 = .ok (.iconst 0, 1) := by decide +kernel
theorem dX8_start_8 : decode cX8_start 8 = .ok (.ireturn, 1) := by decide +kernel
theorem dX8_start_9 : decode cX8_start 9 = .ok (.aload_n 0, 1) := by decide +kernel
theorem dX8_start_10 : decode cX8_start 10 = .ok (.getfield 16, 3) := by decide +kernel
theorem dX8_start_13 : decode cX8_start 13 = .ok (.aload_n 0, 1) := by decide +kernel
theorem dX8_start_14 : decode cX8_start 14 = .ok (.getfield 10, 3) := by decide +kernel
theorem dX8_start_17 : decode cX8_start 17 = .ok (.invokevirtual 26, 3) := by decide +kernel
theorem dX8_start_20 : decode cX8_start 20 = .ok (.aload_n 0, 1) := by decide +kernel
theorem dX8_start_21 : decode cX8_start 21 = .ok (.iconst 1, 1) := by decide +kernel
theorem dX8_start_22 : decode cX8_start 22 = .ok (.putfield 22, 3) := by decide +kernel
theorem dX8_start_25 : decode cX8_start 25 = .ok (.iconst 1, 1) := by decide +kernel
theorem dX8_start_26 : decode cX8_start 26 = .ok (.ireturn, 1) := by decide +kernel
abbrev M_X8_start : mM := (cX8_start, 1, RX8, some .boolean, false, 3, 126, 0, 0)
theorem gX8_start : cI yX8_start M_X8_start 0 := ⟨(wsl_49 _ (List.mem_of_getElem? (i := 10) rfl)), (wsl_49 _ (List.mem_of_getElem? (i := 11) rfl)), (wsl_1 _ (List.mem_of_getElem? (i := 23) rfl)), (wsl_49 _ (List.mem_of_getElem? (i := 12) rfl)), by decide +kernel⟩
noncomputable def fX8_start (h : hH) (a0 : Int) : Option (Int × hH) :=
  if h a0 2 = 0 then
    (fX3_copyFrom h (h a0 1) (h a0 0)).bind fun h17 =>
    (pput h17 a0 2 1).bind fun h22 =>
    some (1, h22)
  else
    some (0, h)
section M_X8_start
variable {p : Program} {l : Launch} {e : Env} {R : Room} {s : State} {m : MethodId} {args : Array Value} {below : List Frame} {meth : Method} {c : Code} {D : va_G} {G : gG} {A : Nat → Prop} {H0 : Heap} {n0 : Int} {x : Option vV × hH} {h : hH}
set_option maxRecDepth 100000 in
set_option maxHeartbeats 4000000 in
theorem oX8_start_b0 {a0 : Int} {K : Int × hH → Prop} (k0 : ∀ r, K (r) → x = (some (2, r.1), r.2)) {r : Int × hH} (hr : fX8_start h a0 = some r) (hk : K r) : Wq p l e R s m args below meth c D G A H0 true n0 M_X8_start x 0 0 0 [(0, (18, a0))] [] h := by
  unfold fX8_start at hr
  refine r_aload_n dX8_start_0 rfl 0 rfl (nl rfl) ?_
  refine r_get 8 2 (o := a0) (w := (2, h a0 2)) (T := TX8) (ref := "FollowingRefs$State") rfl (by decide) rfl (by decide) inlX8 (wsl_22 _ (List.mem_of_getElem? (i := 18) rfl)) rfl dX8_start_1 rfl ?_
  refine r_scast 0 (v := (2, h a0 2)) (w := (0, h a0 2)) rfl zc hTz (st' := [(0, h a0 2)]) rfl ?_
  refine r_if_eq dX8_start_4 (tgt := 9) (by decide) (fun hc => ?_) (fun hc => ?_)
  · have hr := ifp hr hc
    refine r_aload_n dX8_start_9 rfl 0 rfl (nl rfl) ?_
    refine r_get 8 1 (o := a0) (w := (13, h a0 1)) (T := TX8) (ref := "FollowingRefs$State") rfl (by decide) rfl (by decide) inlX8 (wsl_4 _ (List.mem_of_getElem? (i := 7) rfl)) rfl dX8_start_10 rfl ?_
    refine r_aload_n dX8_start_13 rfl 0 rfl (nl rfl) ?_
    refine r_get 8 0 (o := a0) (w := (13, h a0 0)) (T := TX8) (ref := "FollowingRefs$State") rfl (by decide) rfl (by decide) inlX8 (wsl_4 _ (List.mem_of_getElem? (i := 6) rfl)) rfl dX8_start_14 rfl ?_
    obtain ⟨h17, hg17, hr⟩ := bnd hr
    refine k_V (ci := 3) (o := h a0 1) (T := TX3) (as := [(13, h a0 0)]) (rest := []) (X := (none, h17)) (oX3_copyFrom hg17) gX3_copyFrom rfl (by decide) rfl (wsl_40 _ (List.mem_of_getElem? (i := 5) rfl)) rfl dX8_start_17 rfl ?_
    refine r_aload_n dX8_start_20 rfl 0 rfl (nl rfl) ?_
    refine r_iconst dX8_start_21 (by decide) ?_
    refine r_scast 0 (v := (0, 1)) (w := (2, 1)) rfl cz (fun _ => Or.inr rfl) (st' := [(2, 1), (18, a0)]) rfl ?_
    obtain ⟨h22, hg22, hr⟩ := bnd hr
    refine r_put' 8 2 (t := 2) (ref := "FollowingRefs$State") hg22 rfl tyX8 tyX8_ok nmX8 rfl (by decide) rfl (by decide) inlX8 (wsl_22 _ (List.mem_of_getElem? (i := 18) rfl)) rfl rfl (by decide +kernel) (by decide) rfl (Or.inr (Or.inr (Or.inl ⟨rfl, rfl⟩))) dX8_start_22 ?_
    refine r_iconst dX8_start_25 (by decide) ?_
    refine r_scast 0 (v := (0, 1)) (w := (2, 1)) rfl cz (fun _ => Or.inr rfl) (st' := [(2, 1)]) rfl ?_
    obtain rfl := Option.some.inj hr
    exact r_ret dX8_start_26 rfl (Or.inr ⟨rfl, rfl⟩) (k0 _ hk) ⟨rfl, rfl⟩
  · have hr := ifn hr hc
    refine r_iconst dX8_start_7 (by decide) ?_
    refine r_scast 0 (v := (0, 0)) (w := (2, 0)) rfl cz (fun _ => Or.inl rfl) (st' := [(2, 0)]) rfl ?_
    obtain rfl := Option.some.inj hr
    exact r_ret dX8_start_8 rfl (Or.inr ⟨rfl, rfl⟩) (k0 _ hk) ⟨rfl, rfl⟩
end M_X8_start
theorem oX8_start {l : Launch} {D : va_G} {G : gG} {h : hH} {a0 : Int} {r : Int × hH} (hr : fX8_start h a0 = some r) : Ctr l D G true yX8_start M_X8_start [(18, a0)] h (some (2, r.1), r.2) :=
  Ctr_of (by decide) rfl (fun z => by cases z) (nl rfl) (fun {p e R s m args below meth c A H0} => by
    exact oX8_start_b0 (K := fun z9 => z9 = r) (fun r9 z => by rw [z]) hr rfl)
/-! X8_goBack -/
theorem dX8_goBack_0 : decode cX8_goBack 0 = .ok (.aload_n 0, 1) := by decide +kernel
theorem dX8_goBack_1 : decode cX8_goBack 1 = .ok (.getfield 22, 3) := by decide +kernel
theorem dX8_goBack_4 : decode cX8_goBack 4 = .ok (.ifCond .ne 5, 3) := by decide +kernel
theorem dX8_goBack_7 : decode cX8_goBack 7 = .ok (.iconst 0, 1) := by decide +kernel
theorem dX8_goBack_8 : decode cX8_goBack 8 = .ok (.ireturn, 1) := by decide +kernel
theorem dX8_goBack_9 : decode cX8_goBack 9 = .ok (.aload_n 0, 1) := by decide +kernel
theorem dX8_goBack_10 : decode cX8_goBack 10 = .ok (.getfield 10, 3) := by decide +kernel
theorem dX8_goBack_13 : decode cX8_goBack 13 = .ok (.getfield 30, 3) := by decide +kernel
theorem dX8_goBack_16 : decode cX8_goBack 16 = .ok (.istore_n 1, 1) := by decide +kernel
theorem dX8_goBack_17 : decode cX8_goBack 17 = .ok (.aload_n 0, 1) := by decide +kernel
theorem dX8_goBack_18 : decode cX8_goBack 18 = .ok (.getfield 10, 3) := by decide +kernel
theorem dX8_goBack_21 : decode cX8_goBack 21 = .ok (.aload_n 0, 1) := by decide +kernel
theorem dX8_goBack_22 : decode cX8_goBack 22 = .ok (.getfield 16, 3) := by decide +kernel
theorem dX8_goBack_25 : decode cX8_goBack 25 = .ok (.invokevirtual 26, 3) := by decide +kernel
theorem dX8_goBack_28 : decode cX8_goBack 28 = .ok (.aload_n 0, 1) := by decide +kernel
theorem dX8_goBack_29 : decode cX8_goBack 29 = .ok (.getfield 10, 3) := by decide +kernel
theorem dX8_goBack_32 : decode cX8_goBack 32 = .ok (.iload_n 1, 1) := by decide +kernel
theorem dX8_goBack_33 : decode cX8_goBack 33 = .ok (.putfield 30, 3) := by decide +kernel
theorem dX8_goBack_36 : decode cX8_goBack 36 = .ok (.aload_n 0, 1) := by decide +kernel
theorem dX8_goBack_37 : decode cX8_goBack 37 = .ok (.iconst 0, 1) := by decide +kernel
theorem dX8_goBack_38 : decode cX8_goBack 38 = .ok (.putfield 22, 3) := by decide +kernel
theorem dX8_goBack_41 : decode cX8_goBack 41 = .ok (.iconst 1, 1) := by decide +kernel
theorem dX8_goBack_42 : decode cX8_goBack 42 = .ok (.ireturn, 1) := by decide +kernel
abbrev M_X8_goBack : mM := (cX8_goBack, 2, RX8, some .boolean, false, 3, 126, 0, 0)
theorem gX8_goBack : cI yX8_goBack M_X8_goBack 0 := ⟨(wsl_51 _ (List.mem_of_getElem? (i := 8) rfl)), (wsl_51 _ (List.mem_of_getElem? (i := 9) rfl)), (wsl_1 _ (List.mem_of_getElem? (i := 23) rfl)), (wsl_51 _ (List.mem_of_getElem? (i := 10) rfl)), by decide +kernel⟩
noncomputable def fX8_goBack (h : hH) (a0 : Int) : Option (Int × hH) :=
  if h a0 2 = 0 then
    some (0, h)
  else
    (fX3_copyFrom h (h a0 0) (h a0 1)).bind fun h25 =>
    (pput h25 (h25 a0 0) 1 (h (h a0 0) 1)).bind fun h33 =>
    (pput h33 a0 2 0).bind fun h38 =>
    some (1, h38)
section M_X8_goBack
variable {p : Program} {l : Launch} {e : Env} {R : Room} {s : State} {m : MethodId} {args : Array Value} {below : List Frame} {meth : Method} {c : Code} {D : va_G} {G : gG} {A : Nat → Prop} {H0 : Heap} {n0 : Int} {x : Option vV × hH} {h : hH}
set_option maxRecDepth 100000 in
set_option maxHeartbeats 4000000 in
theorem oX8_goBack_b0 {a0 : Int} {K : Int × hH → Prop} (k0 : ∀ r, K (r) → x = (some (2, r.1), r.2)) {r : Int × hH} (hr : fX8_goBack h a0 = some r) (hk : K r) : Wq p l e R s m args below meth c D G A H0 true n0 M_X8_goBack x 0 0 0 [(0, (18, a0))] [] h := by
  unfold fX8_goBack at hr
  refine r_aload_n dX8_goBack_0 rfl 0 rfl (nl rfl) ?_
  refine r_get 8 2 (o := a0) (w := (2, h a0 2)) (T := TX8) (ref := "FollowingRefs$State") rfl (by decide) rfl (by decide) inlX8 (wsl_22 _ (List.mem_of_getElem? (i := 18) rfl)) rfl dX8_goBack_1 rfl ?_
  refine r_scast 0 (v := (2, h a0 2)) (w := (0, h a0 2)) rfl zc hTz (st' := [(0, h a0 2)]) rfl ?_
  refine r_if_ne dX8_goBack_4 (tgt := 9) (by decide) (fun hc => ?_) (fun hc => ?_)
  · have hr := ifn hr hc
    refine r_aload_n dX8_goBack_9 rfl 0 rfl (nl rfl) ?_
    refine r_get 8 0 (o := a0) (w := (13, h a0 0)) (T := TX8) (ref := "FollowingRefs$State") rfl (by decide) rfl (by decide) inlX8 (wsl_4 _ (List.mem_of_getElem? (i := 6) rfl)) rfl dX8_goBack_10 rfl ?_
    refine r_get 3 1 (o := h a0 0) (w := (0, h (h a0 0) 1)) (T := TX3) (ref := "FollowingRefs$Rows") rfl (by decide) rfl (by decide) inlX3 (wsl_51 _ (List.mem_of_getElem? (i := 11) rfl)) rfl dX8_goBack_13 rfl ?_
    refine r_istore_n dX8_goBack_16 rfl (Or.inl rfl) (by decide) (lv' := [(1, (0, h (h a0 0) 1)), (0, (18, a0))]) rfl ?_
    refine r_aload_n dX8_goBack_17 rfl 1 rfl (nl rfl) ?_
    refine r_get 8 0 (o := a0) (w := (13, h a0 0)) (T := TX8) (ref := "FollowingRefs$State") rfl (by decide) rfl (by decide) inlX8 (wsl_4 _ (List.mem_of_getElem? (i := 6) rfl)) rfl dX8_goBack_18 rfl ?_
    refine r_aload_n dX8_goBack_21 rfl 1 rfl (nl rfl) ?_
    refine r_get 8 1 (o := a0) (w := (13, h a0 1)) (T := TX8) (ref := "FollowingRefs$State") rfl (by decide) rfl (by decide) inlX8 (wsl_4 _ (List.mem_of_getElem? (i := 7) rfl)) rfl dX8_goBack_22 rfl ?_
    obtain ⟨h25, hg25, hr⟩ := bnd hr
    refine k_V (ci := 3) (o := h a0 0) (T := TX3) (as := [(13, h a0 1)]) (rest := []) (X := (none, h25)) (oX3_copyFrom hg25) gX3_copyFrom rfl (by decide) rfl (wsl_40 _ (List.mem_of_getElem? (i := 5) rfl)) rfl dX8_goBack_25 rfl ?_
    refine r_aload_n dX8_goBack_28 rfl 1 rfl (nl rfl) ?_
    refine r_get 8 0 (o := a0) (w := (13, h25 a0 0)) (T := TX8) (ref := "FollowingRefs$State") rfl (by decide) rfl (by decide) inlX8 (wsl_4 _ (List.mem_of_getElem? (i := 6) rfl)) rfl dX8_goBack_29 rfl ?_
    refine r_iload_n dX8_goBack_32 rfl 0 rfl (Or.inl rfl) ?_
    obtain ⟨h33, hg33, hr⟩ := bnd hr
    refine r_put' 3 1 (t := 0) (ref := "FollowingRefs$Rows") hg33 rfl tyX3 tyX3_ok nmX3 rfl (by decide) rfl (by decide) inlX3 (wsl_51 _ (List.mem_of_getElem? (i := 11) rfl)) rfl rfl (by decide +kernel) (by decide) rfl (Or.inl ⟨rfl, rfl⟩) dX8_goBack_33 ?_
    refine r_aload_n dX8_goBack_36 rfl 1 rfl (nl rfl) ?_
    refine r_iconst dX8_goBack_37 (by decide) ?_
    refine r_scast 0 (v := (0, 0)) (w := (2, 0)) rfl cz (fun _ => Or.inl rfl) (st' := [(2, 0), (18, a0)]) rfl ?_
    obtain ⟨h38, hg38, hr⟩ := bnd hr
    refine r_put' 8 2 (t := 2) (ref := "FollowingRefs$State") hg38 rfl tyX8 tyX8_ok nmX8 rfl (by decide) rfl (by decide) inlX8 (wsl_22 _ (List.mem_of_getElem? (i := 18) rfl)) rfl rfl (by decide +kernel) (by decide) rfl (Or.inr (Or.inr (Or.inl ⟨rfl, rfl⟩))) dX8_goBack_38 ?_
    refine r_iconst dX8_goBack_41 (by decide) ?_
    refine r_scast 0 (v := (0, 1)) (w := (2, 1)) rfl cz (fun _ => Or.inr rfl) (st' := [(2, 1)]) rfl ?_
    obtain rfl := Option.some.inj hr
    exact r_ret dX8_goBack_42 rfl (Or.inr ⟨rfl, rfl⟩) (k0 _ hk) ⟨rfl, rfl⟩
  · have hr := ifp hr hc
    refine r_iconst dX8_goBack_7 (by decide) ?_
    refine r_scast 0 (v := (0, 0)) (w := (2, 0)) rfl cz (fun _ => Or.inl rfl) (st' := [(2, 0)]) rfl ?_
    obtain rfl := Option.some.inj hr
    exact r_ret dX8_goBack_8 rfl (Or.inr ⟨rfl, rfl⟩) (k0 _ hk) ⟨rfl, rfl⟩
end M_X8_goBack
theorem oX8_goBack {l : Launch} {D : va_G} {G : gG} {h : hH} {a0 : Int} {r : Int × hH} (hr : fX8_goBack h a0 = some r) : Ctr l D G true yX8_goBack M_X8_goBack [(18, a0)] h (some (2, r.1), r.2) :=
  Ctr_of (by decide) rfl (fun z => by cases z) (nl rfl) (fun {p e R s m args below meth c A H0} => by
    exact oX8_goBack_b0 (K := fun z9 => z9 = r) (fun r9 z => by rw [z]) hr rfl)
/-! X9_append -/
theorem dX9_append_0 : decode cX9_append 0 = .ok (.bipush 24, 2) := by decide +kernel
theorem dX9_append_2 : decode cX9_append 2 = .ok (.istore_n 2, 1) := by decide +kernel
theorem dX9_append_3 : decode cX9_append 3 = .ok (.iload_n 2, 1) := by decide +kernel
theorem dX9_append_4 : decode cX9_append 4 = .ok (.ifCond .lt 51, 3) := by decide +kernel
theorem dX9_append_7 : decode cX9_append 7 = .ok (.aload_n 0, 1) := by decide +kernel
theorem dX9_append_8 : decode cX9_append 8 = .ok (.getfield 19, 3) := by decide +kernel
theorem dX9_append_11 : decode cX9_append 11 = .ok (.ifCond .lt 38, 3) := by decide +kernel
theorem dX9_append_14 : decode cX9_append 14 = .ok (.aload_n 0, 1) := by decide +kernel
theorem dX9_append_15 : decode cX9_append 15 = .ok (.getfield 19, 3) := by decide +kernel
theorem dX9_append_18 : decode cX9_append 18 = .ok (.aload_n 0, 1) := by decide +kernel
theorem dX9_append_19 : decode cX9_append 19 = .ok (.getfield 9, 3) := by decide +kernel
theorem dX9_append_22 : decode cX9_append 22 = .ok (.arraylength, 1) := by decide +kernel
theorem dX9_append_23 : decode cX9_append 23 = .ok (.if_icmp .ge 26, 3) := by decide +kernel
theorem dX9_append_26 : decode cX9_append 26 = .ok (.aload_n 0, 1) := by decide +kernel
theorem dX9_append_27 : decode cX9_append 27 = .ok (.getfield 9, 3) := by decide +kernel
theorem dX9_append_30 : decode cX9_append 30 = .ok (.aload_n 0, 1) := by decide +kernel
theorem dX9_append_31 : decode cX9_append 31 = .ok (.getfield 19, 3) := by decide +kernel
theorem dX9_append_34 : decode cX9_append 34 = .ok (.iload_n 1, 1) := by decide +kernel
theorem dX9_append_35 : decode cX9_append 35 = .ok (.iload_n 2, 1) := by decide +kernel
theorem dX9_append_36 : decode cX9_append 36 = .ok (.iushr, 1) := by decide +kernel
theorem dX9_append_37 : decode cX9_append 37 = .ok (.i2b, 1) := by decide +kernel
theorem dX9_append_38 : decode cX9_append 38 = .ok (.bastore, 1) := by decide +kernel
theorem dX9_append_39 : decode cX9_append 39 = .ok (.aload_n 0, 1) := by decide +kernel
theorem dX9_append_40 : decode cX9_append 40 = .ok (.dup, 1) := by decide +kernel
theorem dX9_append_41 : decode cX9_append 41 = .ok (.getfield 19, 3) := by decide +kernel
theorem dX9_append_44 : decode cX9_append 44 = .ok (.iconst 1, 1) := by decide +kernel
theorem dX9_append_45 : decode cX9_append 45 = .ok (.iadd, 1) := by decide +kernel
theorem dX9_append_46 : decode cX9_append 46 = .ok (.putfield 19, 3) := by decide +kernel
theorem dX9_append_49 : decode cX9_append 49 = .ok (.iinc 2 (-8), 3) := by decide +kernel
theorem dX9_append_52 : decode cX9_append 52 = .ok (.goto (-49), 3) := by decide +kernel
theorem dX9_append_55 : decode cX9_append 55 = .ok (.return_, 1) := by decide +kernel
abbrev M_X9_append : mM := (cX9_append, 3, RX9, none, false, 0, 0, 0, 0)
theorem gX9_append : cI yX9_append M_X9_append 1 := ⟨(wsl_10 _ (List.mem_of_getElem? (i := 3) rfl)), (wsl_10 _ (List.mem_of_getElem? (i := 4) rfl)), (wsl_1 _ (List.mem_of_getElem? (i := 15) rfl)), (wsl_10 _ (List.mem_of_getElem? (i := 5) rfl)), by decide +kernel⟩
noncomputable def fX9_append_s3 (h0 : hH) (a0 a1 : Int) : hH × Int → Option ((hH × Int) ⊕ (hH)) := fun (h, l2) =>
  if l2 < 0 then
    some (.inr (h))
  else
    if h a0 1 < 0 then
      some (.inl (h, w32 (l2 + (-8))))
    else
      if h a0 1 < h (h a0 0) (-1) then
        (aput h (h a0 0) (h a0 1) (i2bD (i2bD (iusD a1 l2)))).bind fun h38 =>
        (pput h38 a0 1 (w32 ((h38 a0 1) + 1))).bind fun h46 =>
        some (.inl (h46, w32 (l2 + (-8))))
      else
        some (.inl (h, w32 (l2 + (-8))))
noncomputable def fX9_append (h : hH) (a0 a1 : Int) : Option (hH) :=
  lpO (fX9_append_s3 h a0 a1) (h, 24)
section M_X9_append
variable {p : Program} {l : Launch} {e : Env} {R : Room} {s : State} {m : MethodId} {args : Array Value} {below : List Frame} {meth : Method} {c : Code} {D : va_G} {G : gG} {A : Nat → Prop} {H0 : Heap} {n0 : Int} {x : Option vV × hH} {h : hH}
set_option maxRecDepth 100000 in
set_option maxHeartbeats 4000000 in
theorem oX9_append_s3 {h0 : hH} {a0 a1 l2 : Int} {K : (hH × Int) ⊕ (hH) → Prop} (k0 : ∀ r, K (.inr (r)) → x = (none, r)) (k1 : ∀ (h : hH) (l2 : Int), K (.inl (h, l2)) → Wq p l e R s m args below meth c D G A H0 true n0 M_X9_append x 0 0 3 [(0, (19, a0)), (1, (0, a1)), (2, (0, l2))] [] h) {r : (hH × Int) ⊕ (hH)} (hr : fX9_append_s3 h0 a0 a1 (h, l2) = some r) (hk : K r) : Wq p l e R s m args below meth c D G A H0 true n0 M_X9_append x 0 0 3 [(0, (19, a0)), (1, (0, a1)), (2, (0, l2))] [] h := by
  unfold fX9_append_s3 at hr
  refine r_iload_n dX9_append_3 rfl 2 rfl (Or.inl rfl) ?_
  refine r_if_lt dX9_append_4 (tgt := 55) (by decide) (fun hc => ?_) (fun hc => ?_)
  · have hr := ifp hr hc
    obtain rfl := Option.some.inj hr
    exact r_vret dX9_append_55 rfl (k0 _ hk) ⟨rfl, rfl⟩
  · have hr := ifn hr hc
    refine r_aload_n dX9_append_7 rfl 0 rfl (nl rfl) ?_
    refine r_get 9 1 (o := a0) (w := (0, h a0 1)) (T := TX9) (ref := "FollowingRefs$Text") rfl (by decide) rfl (by decide) inlX9 (wsl_10 _ (List.mem_of_getElem? (i := 6) rfl)) rfl dX9_append_8 rfl ?_
    refine r_if_lt dX9_append_11 (tgt := 49) (by decide) (fun hc => ?_) (fun hc => ?_)
    · have hr := ifp hr hc
      refine r_iinc (k := 2) (v := l2) dX9_append_49 rfl (by decide) (lv' := [(2, (0, w32 (l2 + (-8)))), (0, (19, a0)), (1, (0, a1))]) rfl ?_
      refine r_goto dX9_append_52 (tgt := 3) (by decide) ?_
      refine r_sub [1, 2, 0] (lv' := [(0, (19, a0)), (1, (0, a1)), (2, (0, w32 (l2 + (-8))))]) rfl ?_
      obtain rfl := Option.some.inj hr
      exact k1 _ _ hk
    · have hr := ifn hr hc
      refine r_aload_n dX9_append_14 rfl 0 rfl (nl rfl) ?_
      refine r_get 9 1 (o := a0) (w := (0, h a0 1)) (T := TX9) (ref := "FollowingRefs$Text") rfl (by decide) rfl (by decide) inlX9 (wsl_10 _ (List.mem_of_getElem? (i := 6) rfl)) rfl dX9_append_15 rfl ?_
      refine r_aload_n dX9_append_18 rfl 0 rfl (nl rfl) ?_
      refine r_get 9 0 (o := a0) (w := (52, h a0 0)) (T := TX9) (ref := "FollowingRefs$Text") rfl (by decide) rfl (by decide) inlX9 (wsl_3 _ (List.mem_of_getElem? (i := 11) rfl)) rfl dX9_append_19 rfl ?_
      refine r_alen (t := 52) (by decide) (by decide) dX9_append_22 ?_
      refine r_icmp_ge dX9_append_23 (tgt := 49) (by decide) (fun hc => ?_) (fun hc => ?_)
      · have hr := ifn hr hc
        refine r_iinc (k := 2) (v := l2) dX9_append_49 rfl (by decide) (lv' := [(2, (0, w32 (l2 + (-8)))), (0, (19, a0)), (1, (0, a1))]) rfl ?_
        refine r_goto dX9_append_52 (tgt := 3) (by decide) ?_
        refine r_sub [1, 2, 0] (lv' := [(0, (19, a0)), (1, (0, a1)), (2, (0, w32 (l2 + (-8))))]) rfl ?_
        obtain rfl := Option.some.inj hr
        exact k1 _ _ hk
      · have hr := ifp hr hc
        refine r_aload_n dX9_append_26 rfl 0 rfl (nl rfl) ?_
        refine r_get 9 0 (o := a0) (w := (52, h a0 0)) (T := TX9) (ref := "FollowingRefs$Text") rfl (by decide) rfl (by decide) inlX9 (wsl_3 _ (List.mem_of_getElem? (i := 11) rfl)) rfl dX9_append_27 rfl ?_
        refine r_aload_n dX9_append_30 rfl 0 rfl (nl rfl) ?_
        refine r_get 9 1 (o := a0) (w := (0, h a0 1)) (T := TX9) (ref := "FollowingRefs$Text") rfl (by decide) rfl (by decide) inlX9 (wsl_10 _ (List.mem_of_getElem? (i := 6) rfl)) rfl dX9_append_31 rfl ?_
        refine r_iload_n dX9_append_34 rfl 1 rfl (Or.inl rfl) ?_
        refine r_iload_n dX9_append_35 rfl 2 rfl (Or.inl rfl) ?_
        refine r_iushr dX9_append_36 ?_
        refine r_i2b dX9_append_37 ?_
        obtain ⟨h38, hg38, hr⟩ := bnd hr
        refine r_bast dX9_append_38 hg38 ?_
        refine r_aload_n dX9_append_39 rfl 0 rfl (nl rfl) ?_
        refine r_dup dX9_append_40 (Nat.ne_of_beq_eq_false rfl) ?_
        refine r_get 9 1 (o := a0) (w := (0, h38 a0 1)) (T := TX9) (ref := "FollowingRefs$Text") rfl (by decide) rfl (by decide) inlX9 (wsl_10 _ (List.mem_of_getElem? (i := 6) rfl)) rfl dX9_append_41 rfl ?_
        refine r_iconst dX9_append_44 (by decide) ?_
        refine r_iadd dX9_append_45 ?_
        obtain ⟨h46, hg46, hr⟩ := bnd hr
        refine r_put' 9 1 (t := 0) (ref := "FollowingRefs$Text") hg46 rfl tyX9 tyX9_ok nmX9 rfl (by decide) rfl (by decide) inlX9 (wsl_10 _ (List.mem_of_getElem? (i := 6) rfl)) rfl rfl (by decide +kernel) (by decide) rfl (Or.inl ⟨rfl, rfl⟩) dX9_append_46 ?_
        refine r_iinc (k := 2) (v := l2) dX9_append_49 rfl (by decide) (lv' := [(2, (0, w32 (l2 + (-8)))), (0, (19, a0)), (1, (0, a1))]) rfl ?_
        refine r_goto dX9_append_52 (tgt := 3) (by decide) ?_
        refine r_sub [1, 2, 0] (lv' := [(0, (19, a0)), (1, (0, a1)), (2, (0, w32 (l2 + (-8))))]) rfl ?_
        obtain rfl := Option.some.inj hr
        exact k1 _ _ hk
set_option maxRecDepth 100000 in
set_option maxHeartbeats 4000000 in
theorem oX9_append_b0 {a0 a1 : Int} {K : hH → Prop} (k0 : ∀ r, K (r) → x = (none, r)) {r : hH} (hr : fX9_append h a0 a1 = some r) (hk : K r) : Wq p l e R s m args below meth c D G A H0 true n0 M_X9_append x 0 0 0 [(0, (19, a0)), (1, (0, a1))] [] h := by
  unfold fX9_append at hr
  refine r_bipush dX9_append_0 (by decide) (by decide) ?_
  refine r_istore_n dX9_append_2 rfl (Or.inl rfl) (by decide) (lv' := [(2, (0, 24)), (0, (19, a0)), (1, (0, a1))]) rfl ?_
  refine r_sub [1, 2, 0] (lv' := [(0, (19, a0)), (1, (0, a1)), (2, (0, 24))]) rfl ?_
  exact lp_ok (w := fun (q : hH × Int) => Wq p l e R s m args below meth c D G A H0 true n0 M_X9_append x 0 0 3 [(0, (19, a0)), (1, (0, a1)), (2, (0, q.2))] [] (q.1)) (K := K) (fun ⟨q0, q1⟩ r h1 h2 => oX9_append_s3 (K := Sum.elim (fun (q : hH × Int) => Wq p l e R s m args below meth c D G A H0 true n0 M_X9_append x 0 0 3 [(0, (19, a0)), (1, (0, a1)), (2, (0, q.2))] [] (q.1)) (K)) (fun r z => k0 r z) (fun _ _ z => z) h1 h2) hr hk
end M_X9_append
theorem oX9_append {l : Launch} {D : va_G} {G : gG} {h : hH} {a0 a1 : Int} {r : hH} (hr : fX9_append h a0 a1 = some r) : Ctr l D G true yX9_append M_X9_append [(19, a0), (0, a1)] h (none, r) :=
  Ctr_of (by decide) rfl (fun z => by cases z) (nl rfl) (fun {p e R s m args below meth c A H0} => by
    exact oX9_append_b0 (K := fun z9 => z9 = r) (fun r9 z => by rw [z]) hr rfl)
/-! X11_feed -/
theorem dX11_feed_0 : decode cX11_feed 0 = .ok (.aload_n 0, 1) := by decide +kernel
theorem dX11_feed_1 : decode cX11_feed 1 = .ok (.getfield 12, 3) := by decide +kernel
theorem dX11_feed_4 : decode cX11_feed 4 = .ok (.getfield 102, 3) := by decide +kernel
theorem dX11_feed_7 : decode cX11_feed 7 = .ok (.bipush 20, 2) := by decide +kernel
theorem dX11_feed_9 : decode cX11_feed 9 = .ok (.iadd, 1) := by decide +kernel
theorem dX11_feed_10 : decode cX11_feed 10 = .ok (.sipush 940, 3) := by decide +kernel
theorem dX11_feed_13 : decode cX11_feed 13 = .ok (.if_icmp .le 5, 3) := by decide +kernel
theorem dX11_feed_16 : decode cX11_feed 16 = .ok (.iconst (-1), 1) := by decide +kernel
theorem dX11_feed_17 : decode cX11_feed 17 = .ok (.ireturn, 1) := by decide +kernel
theorem dX11_feed_18 : decode cX11_feed 18 = .ok (.aload_n 0, 1) := by decide +kernel
theorem dX11_feed_19 : decode cX11_feed 19 = .ok (.getfield 12, 3) := by decide +kernel
theorem dX11_feed_22 : decode cX11_feed 22 = .ok (.iload_n 1, 1) := by decide +kernel
theorem dX11_feed_23 : decode cX11_feed 23 = .ok (.invokevirtual 106, 3) := by decide +kernel
theorem dX11_feed_26 : decode cX11_feed 26 = .ok (.aload_n 0, 1) := by decide +kernel
theorem dX11_feed_27 : decode cX11_feed 27 = .ok (.getfield 12, 3) := by decide +kernel
theorem dX11_feed_30 : decode cX11_feed 30 = .ok (.iload_n 2, 1) := by decide +kernel
theorem dX11_feed_31 : decode cX11_feed 31 = .ok (.invokevirtual 106, 3) := by decide +kernel
theorem dX11_feed_34 : decode cX11_feed 34 = .ok (.aload_n 0, 1) := by decide +kernel
theorem dX11_feed_35 : decode cX11_feed 35 = .ok (.getfield 12, 3) := by decide +kernel
theorem dX11_feed_38 : decode cX11_feed 38 = .ok (.iload_n 3, 1) := by decide +kernel
theorem dX11_feed_39 : decode cX11_feed 39 = .ok (.invokevirtual 106, 3) := by decide +kernel
theorem dX11_feed_42 : decode cX11_feed 42 = .ok (.aload_n 0, 1) := by decide +kernel
theorem dX11_feed_43 : decode cX11_feed 43 = .ok (.getfield 12, 3) := by decide +kernel
theorem dX11_feed_46 : decode cX11_feed 46 = .ok (.iload 4, 2) := by decide +kernel
theorem dX11_feed_48 : decode cX11_feed 48 = .ok (.invokevirtual 106, 3) := by decide +kernel
theorem dX11_feed_51 : decode cX11_feed 51 = .ok (.aload_n 0, 1) := by decide +kernel
theorem dX11_feed_52 : decode cX11_feed 52 = .ok (.getfield 12, 3) := by decide +kernel
theorem dX11_feed_55 : decode cX11_feed 55 = .ok (.iload 5, 2) := by decide +kernel
theorem dX11_feed_57 : decode cX11_feed 57 = .ok (.invokevirtual 106, 3) := by decide +kernel
theorem dX11_feed_60 : decode cX11_feed 60 = .ok (.aload_n 0, 1) := by decide +kernel
theorem dX11_feed_61 : decode cX11_feed 61 = .ok (.getfield 12, 3) := by decide +kernel
theorem dX11_feed_64 : decode cX11_feed 64 = .ok (.getfield 102, 3) := by decide +kernel
theorem dX11_feed_67 : decode cX11_feed 67 = .ok (.ireturn, 1) := by decide +kernel
abbrev M_X11_feed : mM := (cX11_feed, 6, RX11, some .int, false, 1, 22, 0, 0)
theorem gX11_feed : cI yX11_feed M_X11_feed 5 := ⟨(wsl_9 _ (List.mem_of_getElem? (i := 22) rfl)), (wsl_9 _ (List.mem_of_getElem? (i := 23) rfl)), (wsl_1 _ (List.mem_of_getElem? (i := 2) rfl)), (wsl_10 _ (List.mem_of_getElem? (i := 0) rfl)), by decide +kernel⟩
noncomputable def fX11_feed (h : hH) (a0 a1 a2 a3 a4 a5 : Int) : Option (Int × hH) :=
  if 940 < w32 ((h (h a0 0) 1) + 20) then
    some (-1, h)
  else
    (fX9_append h (h a0 0) a1).bind fun h23 =>
    (fX9_append h23 (h23 a0 0) a2).bind fun h31 =>
    (fX9_append h31 (h31 a0 0) a3).bind fun h39 =>
    (fX9_append h39 (h39 a0 0) a4).bind fun h48 =>
    (fX9_append h48 (h48 a0 0) a5).bind fun h57 =>
    some (h57 (h57 a0 0) 1, h57)
section M_X11_feed
variable {p : Program} {l : Launch} {e : Env} {R : Room} {s : State} {m : MethodId} {args : Array Value} {below : List Frame} {meth : Method} {c : Code} {D : va_G} {G : gG} {A : Nat → Prop} {H0 : Heap} {n0 : Int} {x : Option vV × hH} {h : hH}
set_option maxRecDepth 100000 in
set_option maxHeartbeats 4000000 in
theorem oX11_feed_b0 {a0 a1 a2 a3 a4 a5 : Int} {K : Int × hH → Prop} (k0 : ∀ r, K (r) → x = (some (0, r.1), r.2)) {r : Int × hH} (hr : fX11_feed h a0 a1 a2 a3 a4 a5 = some r) (hk : K r) : Wq p l e R s m args below meth c D G A H0 true n0 M_X11_feed x 0 0 0 [(0, (21, a0)), (1, (0, a1)), (2, (0, a2)), (3, (0, a3)), (4, (0, a4)), (5, (0, a5))] [] h := by
  unfold fX11_feed at hr
  refine r_aload_n dX11_feed_0 rfl 0 rfl (nl rfl) ?_
  refine r_get 11 0 (o := a0) (w := (19, h a0 0)) (T := TX11) (ref := "FollowingRefs") rfl (by decide) rfl (by decide) inlX11 (wsl_1 _ (List.mem_of_getElem? (i := 16) rfl)) rfl dX11_feed_1 rfl ?_
  refine r_get 9 1 (o := h a0 0) (w := (0, h (h a0 0) 1)) (T := TX9) (ref := "FollowingRefs$Text") rfl (by decide) rfl (by decide) inlX9 (wsl_10 _ (List.mem_of_getElem? (i := 1) rfl)) rfl dX11_feed_4 rfl ?_
  refine r_bipush dX11_feed_7 (by decide) (by decide) ?_
  refine r_iadd dX11_feed_9 ?_
  refine r_sipush dX11_feed_10 (by decide) (by decide) ?_
  refine r_icmp_le dX11_feed_13 (tgt := 18) (by decide) (fun hc => ?_) (fun hc => ?_)
  · have hr := ifn hr hc
    refine r_aload_n dX11_feed_18 rfl 0 rfl (nl rfl) ?_
    refine r_get 11 0 (o := a0) (w := (19, h a0 0)) (T := TX11) (ref := "FollowingRefs") rfl (by decide) rfl (by decide) inlX11 (wsl_1 _ (List.mem_of_getElem? (i := 16) rfl)) rfl dX11_feed_19 rfl ?_
    refine r_iload_n dX11_feed_22 rfl 1 rfl (Or.inl rfl) ?_
    obtain ⟨h23, hg23, hr⟩ := bnd hr
    refine k_V (ci := 9) (o := h a0 0) (T := TX9) (as := [(0, a1)]) (rest := []) (X := (none, h23)) (oX9_append hg23) gX9_append rfl (by decide) rfl (wsl_10 _ (List.mem_of_getElem? (i := 2) rfl)) rfl dX11_feed_23 rfl ?_
    refine r_aload_n dX11_feed_26 rfl 0 rfl (nl rfl) ?_
    refine r_get 11 0 (o := a0) (w := (19, h23 a0 0)) (T := TX11) (ref := "FollowingRefs") rfl (by decide) rfl (by decide) inlX11 (wsl_1 _ (List.mem_of_getElem? (i := 16) rfl)) rfl dX11_feed_27 rfl ?_
    refine r_iload_n dX11_feed_30 rfl 2 rfl (Or.inl rfl) ?_
    obtain ⟨h31, hg31, hr⟩ := bnd hr
    refine k_V (ci := 9) (o := h23 a0 0) (T := TX9) (as := [(0, a2)]) (rest := []) (X := (none, h31)) (oX9_append hg31) gX9_append rfl (by decide) rfl (wsl_10 _ (List.mem_of_getElem? (i := 2) rfl)) rfl dX11_feed_31 rfl ?_
    refine r_aload_n dX11_feed_34 rfl 0 rfl (nl rfl) ?_
    refine r_get 11 0 (o := a0) (w := (19, h31 a0 0)) (T := TX11) (ref := "FollowingRefs") rfl (by decide) rfl (by decide) inlX11 (wsl_1 _ (List.mem_of_getElem? (i := 16) rfl)) rfl dX11_feed_35 rfl ?_
    refine r_iload_n dX11_feed_38 rfl 3 rfl (Or.inl rfl) ?_
    obtain ⟨h39, hg39, hr⟩ := bnd hr
    refine k_V (ci := 9) (o := h31 a0 0) (T := TX9) (as := [(0, a3)]) (rest := []) (X := (none, h39)) (oX9_append hg39) gX9_append rfl (by decide) rfl (wsl_10 _ (List.mem_of_getElem? (i := 2) rfl)) rfl dX11_feed_39 rfl ?_
    refine r_aload_n dX11_feed_42 rfl 0 rfl (nl rfl) ?_
    refine r_get 11 0 (o := a0) (w := (19, h39 a0 0)) (T := TX11) (ref := "FollowingRefs") rfl (by decide) rfl (by decide) inlX11 (wsl_1 _ (List.mem_of_getElem? (i := 16) rfl)) rfl dX11_feed_43 rfl ?_
    refine r_iload dX11_feed_46 4 rfl (Or.inl rfl) ?_
    obtain ⟨h48, hg48, hr⟩ := bnd hr
    refine k_V (ci := 9) (o := h39 a0 0) (T := TX9) (as := [(0, a4)]) (rest := []) (X := (none, h48)) (oX9_append hg48) gX9_append rfl (by decide) rfl (wsl_10 _ (List.mem_of_getElem? (i := 2) rfl)) rfl dX11_feed_48 rfl ?_
    refine r_aload_n dX11_feed_51 rfl 0 rfl (nl rfl) ?_
    refine r_get 11 0 (o := a0) (w := (19, h48 a0 0)) (T := TX11) (ref := "FollowingRefs") rfl (by decide) rfl (by decide) inlX11 (wsl_1 _ (List.mem_of_getElem? (i := 16) rfl)) rfl dX11_feed_52 rfl ?_
    refine r_iload dX11_feed_55 5 rfl (Or.inl rfl) ?_
    obtain ⟨h57, hg57, hr⟩ := bnd hr
    refine k_V (ci := 9) (o := h48 a0 0) (T := TX9) (as := [(0, a5)]) (rest := []) (X := (none, h57)) (oX9_append hg57) gX9_append rfl (by decide) rfl (wsl_10 _ (List.mem_of_getElem? (i := 2) rfl)) rfl dX11_feed_57 rfl ?_
    refine r_aload_n dX11_feed_60 rfl 0 rfl (nl rfl) ?_
    refine r_get 11 0 (o := a0) (w := (19, h57 a0 0)) (T := TX11) (ref := "FollowingRefs") rfl (by decide) rfl (by decide) inlX11 (wsl_1 _ (List.mem_of_getElem? (i := 16) rfl)) rfl dX11_feed_61 rfl ?_
    refine r_get 9 1 (o := h57 a0 0) (w := (0, h57 (h57 a0 0) 1)) (T := TX9) (ref := "FollowingRefs$Text") rfl (by decide) rfl (by decide) inlX9 (wsl_10 _ (List.mem_of_getElem? (i := 1) rfl)) rfl dX11_feed_64 rfl ?_
    obtain rfl := Option.some.inj hr
    exact r_ret dX11_feed_67 rfl (Or.inl ⟨rfl, rfl⟩) (k0 _ hk) ⟨rfl, rfl⟩
  · have hr := ifp hr hc
    refine r_iconst dX11_feed_16 (by decide) ?_
    obtain rfl := Option.some.inj hr
    exact r_ret dX11_feed_17 rfl (Or.inl ⟨rfl, rfl⟩) (k0 _ hk) ⟨rfl, rfl⟩
end M_X11_feed
theorem oX11_feed {l : Launch} {D : va_G} {G : gG} {h : hH} {a0 a1 a2 a3 a4 a5 : Int} {r : Int × hH} (hr : fX11_feed h a0 a1 a2 a3 a4 a5 = some r) : Ctr l D G true yX11_feed M_X11_feed [(21, a0), (0, a1), (0, a2), (0, a3), (0, a4), (0, a5)] h (some (0, r.1), r.2) :=
  Ctr_of (by decide) rfl (fun z => by cases z) (nl rfl) (fun {p e R s m args below meth c A H0} => by
    exact oX11_feed_b0 (K := fun z9 => z9 = r) (fun r9 z => by rw [z]) hr rfl)
/-! X11_end -/
theorem dX11_end_0 : decode cX11_end 0 = .ok (.iload_n 1, 1) := by decide +kernel
theorem dX11_end_1 : decode cX11_end 1 = .ok (.ifCond .lt 14, 3) := by decide +kernel
theorem dX11_end_4 : decode cX11_end 4 = .ok (.iload_n 1, 1) := by decide +kernel
theorem dX11_end_5 : decode cX11_end 5 = .ok (.aload_n 0, 1) := by decide +kernel
theorem dX11_end_6 : decode cX11_end 6 = .ok (.getfield 12, 3) := by decide +kernel
theorem dX11_end_9 : decode cX11_end 9 = .ok (.getfield 102, 3) := by decide +kernel
theorem dX11_end_12 : decode cX11_end 12 = .ok (.if_icmp .le 5, 3) := by decide +kernel
theorem dX11_end_15 : decode cX11_end 15 = .ok (.iconst 0, 1) := by decide +kernel
theorem dX11_end_16 : decode cX11_end 16 = .ok (.ireturn, 1) := by decide +kernel
theorem dX11_end_17 : decode cX11_end 17 = .ok (.aload_n 0, 1) := by decide +kernel
theorem dX11_end_18 : decode cX11_end 18 = .ok (.getfield 12, 3) := by decide +kernel
theorem dX11_end_21 : decode cX11_end 21 = .ok (.iload_n 1, 1) := by decide +kernel
theorem dX11_end_22 : decode cX11_end 22 = .ok (.putfield 102, 3) := by decide +kernel
theorem dX11_end_25 : decode cX11_end 25 = .ok (.iconst 1, 1) := by decide +kernel
theorem dX11_end_26 : decode cX11_end 26 = .ok (.ireturn, 1) := by decide +kernel
abbrev M_X11_end : mM := (cX11_end, 2, RX11, some .boolean, false, 0, 0, 0, 0)
theorem gX11_end : cI yX11_end M_X11_end 1 := ⟨(wsl_10 _ (List.mem_of_getElem? (i := 18) rfl)), (wsl_10 _ (List.mem_of_getElem? (i := 19) rfl)), (wsl_1 _ (List.mem_of_getElem? (i := 2) rfl)), (wsl_10 _ (List.mem_of_getElem? (i := 20) rfl)), by decide +kernel⟩
noncomputable def fX11_end (h : hH) (a0 a1 : Int) : Option (Int × hH) :=
  if a1 < 0 then
    some (0, h)
  else
    if h (h a0 0) 1 < a1 then
      some (0, h)
    else
      (pput h (h a0 0) 1 a1).bind fun h22 =>
      some (1, h22)
section M_X11_end
variable {p : Program} {l : Launch} {e : Env} {R : Room} {s : State} {m : MethodId} {args : Array Value} {below : List Frame} {meth : Method} {c : Code} {D : va_G} {G : gG} {A : Nat → Prop} {H0 : Heap} {n0 : Int} {x : Option vV × hH} {h : hH}
set_option maxRecDepth 100000 in
set_option maxHeartbeats 4000000 in
theorem oX11_end_b0 {a0 a1 : Int} {K : Int × hH → Prop} (k0 : ∀ r, K (r) → x = (some (2, r.1), r.2)) {r : Int × hH} (hr : fX11_end h a0 a1 = some r) (hk : K r) : Wq p l e R s m args below meth c D G A H0 true n0 M_X11_end x 0 0 0 [(0, (21, a0)), (1, (0, a1))] [] h := by
  unfold fX11_end at hr
  refine r_iload_n dX11_end_0 rfl 1 rfl (Or.inl rfl) ?_
  refine r_if_lt dX11_end_1 (tgt := 15) (by decide) (fun hc => ?_) (fun hc => ?_)
  · have hr := ifp hr hc
    refine r_iconst dX11_end_15 (by decide) ?_
    refine r_scast 0 (v := (0, 0)) (w := (2, 0)) rfl cz (fun _ => Or.inl rfl) (st' := [(2, 0)]) rfl ?_
    obtain rfl := Option.some.inj hr
    exact r_ret dX11_end_16 rfl (Or.inr ⟨rfl, rfl⟩) (k0 _ hk) ⟨rfl, rfl⟩
  · have hr := ifn hr hc
    refine r_iload_n dX11_end_4 rfl 1 rfl (Or.inl rfl) ?_
    refine r_aload_n dX11_end_5 rfl 0 rfl (nl rfl) ?_
    refine r_get 11 0 (o := a0) (w := (19, h a0 0)) (T := TX11) (ref := "FollowingRefs") rfl (by decide) rfl (by decide) inlX11 (wsl_1 _ (List.mem_of_getElem? (i := 16) rfl)) rfl dX11_end_6 rfl ?_
    refine r_get 9 1 (o := h a0 0) (w := (0, h (h a0 0) 1)) (T := TX9) (ref := "FollowingRefs$Text") rfl (by decide) rfl (by decide) inlX9 (wsl_10 _ (List.mem_of_getElem? (i := 1) rfl)) rfl dX11_end_9 rfl ?_
    refine r_icmp_le dX11_end_12 (tgt := 17) (by decide) (fun hc => ?_) (fun hc => ?_)
    · have hr := ifn hr hc
      refine r_aload_n dX11_end_17 rfl 0 rfl (nl rfl) ?_
      refine r_get 11 0 (o := a0) (w := (19, h a0 0)) (T := TX11) (ref := "FollowingRefs") rfl (by decide) rfl (by decide) inlX11 (wsl_1 _ (List.mem_of_getElem? (i := 16) rfl)) rfl dX11_end_18 rfl ?_
      refine r_iload_n dX11_end_21 rfl 1 rfl (Or.inl rfl) ?_
      obtain ⟨h22, hg22, hr⟩ := bnd hr
      refine r_put' 9 1 (t := 0) (ref := "FollowingRefs$Text") hg22 rfl tyX9 tyX9_ok nmX9 rfl (by decide) rfl (by decide) inlX9 (wsl_10 _ (List.mem_of_getElem? (i := 1) rfl)) rfl rfl (by decide +kernel) (by decide) rfl (Or.inl ⟨rfl, rfl⟩) dX11_end_22 ?_
      refine r_iconst dX11_end_25 (by decide) ?_
      refine r_scast 0 (v := (0, 1)) (w := (2, 1)) rfl cz (fun _ => Or.inr rfl) (st' := [(2, 1)]) rfl ?_
      obtain rfl := Option.some.inj hr
      exact r_ret dX11_end_26 rfl (Or.inr ⟨rfl, rfl⟩) (k0 _ hk) ⟨rfl, rfl⟩
    · have hr := ifp hr hc
      refine r_iconst dX11_end_15 (by decide) ?_
      refine r_scast 0 (v := (0, 0)) (w := (2, 0)) rfl cz (fun _ => Or.inl rfl) (st' := [(2, 0)]) rfl ?_
      obtain rfl := Option.some.inj hr
      exact r_ret dX11_end_16 rfl (Or.inr ⟨rfl, rfl⟩) (k0 _ hk) ⟨rfl, rfl⟩
end M_X11_end
theorem oX11_end {l : Launch} {D : va_G} {G : gG} {h : hH} {a0 a1 : Int} {r : Int × hH} (hr : fX11_end h a0 a1 = some r) : Ctr l D G true yX11_end M_X11_end [(21, a0), (0, a1)] h (some (2, r.1), r.2) :=
  Ctr_of (by decide) rfl (fun z => by cases z) (nl rfl) (fun {p e R s m args below meth c A H0} => by
    exact oX11_end_b0 (K := fun z9 => z9 = r) (fun r9 z => by rw [z]) hr rfl)
/-! X11_schema -/
theorem dX11_schema_0 : decode cX11_schema 0 = .ok (.aload_n 0, 1) := by decide +kernel
theorem dX11_schema_1 : decode cX11_schema 1 = .ok (.getfield 42, 3) := by decide +kernel
theorem dX11_schema_4 : decode cX11_schema 4 = .ok (.invokevirtual 110, 3) := by decide +kernel
theorem dX11_schema_7 : decode cX11_schema 7 = .ok (.istore_n 1, 1) := by decide +kernel
theorem dX11_schema_8 : decode cX11_schema 8 = .ok (.aload_n 0, 1) := by decide +kernel
theorem dX11_schema_9 : decode cX11_schema 9 = .ok (.getfield 12, 3) := by decide +kernel
theorem dX11_schema_12 : decode cX11_schema 12 = .ok (.iconst 0, 1) := by decide +kernel
theorem dX11_schema_13 : decode cX11_schema 13 = .ok (.putfield 102, 3) := by decide +kernel
theorem dX11_schema_16 : decode cX11_schema 16 = .ok (.iload_n 1, 1) := by decide +kernel
theorem dX11_schema_17 : decode cX11_schema 17 = .ok (.ifCond .ne 13, 3) := by decide +kernel
theorem dX11_schema_20 : decode cX11_schema 20 = .ok (.iconst (-1), 1) := by decide +kernel
theorem dX11_schema_21 : decode cX11_schema 21 = .ok (.aload_n 0, 1) := by decide +kernel
theorem dX11_schema_22 : decode cX11_schema 22 = .ok (.getfield 12, 3) := by decide +kernel
theorem dX11_schema_25 : decode cX11_schema 25 = .ok (.getfield 114, 3) := by decide +kernel
theorem dX11_schema_28 : decode cX11_schema 28 = .ok (.isub, 1) := by decide +kernel
theorem dX11_schema_29 : decode cX11_schema 29 = .ok (.ireturn, 1) := by decide +kernel
theorem dX11_schema_30 : decode cX11_schema 30 = .ok (.aload_n 0, 1) := by decide +kernel
theorem dX11_schema_31 : decode cX11_schema 31 = .ok (.getfield 19, 3) := by decide +kernel
theorem dX11_schema_34 : decode cX11_schema 34 = .ok (.aload_n 0, 1) := by decide +kernel
theorem dX11_schema_35 : decode cX11_schema 35 = .ok (.getfield 42, 3) := by decide +kernel
theorem dX11_schema_38 : decode cX11_schema 38 = .ok (.getfield 117, 3) := by decide +kernel
theorem dX11_schema_41 : decode cX11_schema 41 = .ok (.invokevirtual 120, 3) := by decide +kernel
theorem dX11_schema_44 : decode cX11_schema 44 = .ok (.aload_n 0, 1) := by decide +kernel
theorem dX11_schema_45 : decode cX11_schema 45 = .ok (.getfield 26, 3) := by decide +kernel
theorem dX11_schema_48 : decode cX11_schema 48 = .ok (.invokevirtual 124, 3) := by decide +kernel
theorem dX11_schema_51 : decode cX11_schema 51 = .ok (.aload_n 0, 1) := by decide +kernel
theorem dX11_schema_52 : decode cX11_schema 52 = .ok (.getfield 33, 3) := by decide +kernel
theorem dX11_schema_55 : decode cX11_schema 55 = .ok (.invokevirtual 127, 3) := by decide +kernel
theorem dX11_schema_58 : decode cX11_schema 58 = .ok (.aload_n 0, 1) := by decide +kernel
theorem dX11_schema_59 : decode cX11_schema 59 = .ok (.iconst 0, 1) := by decide +kernel
theorem dX11_schema_60 : decode cX11_schema 60 = .ok (.putfield 128, 3) := by decide +kernel
theorem dX11_schema_63 : decode cX11_schema 63 = .ok (.aload_n 0, 1) := by decide +kernel
theorem dX11_schema_64 : decode cX11_schema 64 = .ok (.getfield 42, 3) := by decide +kernel
theorem dX11_schema_67 : decode cX11_schema 67 = .ok (.getfield 131, 3) := by decide +kernel
theorem dX11_schema_70 : decode cX11_schema 70 = .ok (.ireturn, 1) := by decide +kernel
abbrev M_X11_schema : mM := (cX11_schema, 2, RX11, some .int, false, 8, 186, 0, 0)
theorem gX11_schema : cI yX11_schema M_X11_schema 0 := ⟨(wsl_11 _ (List.mem_of_getElem? (i := 2) rfl)), (wsl_11 _ (List.mem_of_getElem? (i := 3) rfl)), (wsl_1 _ (List.mem_of_getElem? (i := 2) rfl)), (wsl_11 _ (List.mem_of_getElem? (i := 4) rfl)), by decide +kernel⟩
noncomputable def fX11_schema (h : hH) (a0 : Int) : Option (Int × hH) :=
  (fX5_readSchema h (h a0 4)).bind fun q4 =>
  (pput q4.2 (q4.2 a0 0) 1 0).bind fun h13 =>
  if q4.1 = 0 then
    some (w32 ((-1) - (h13 (h13 a0 0) 9)), h13)
  else
    (fX4_copyFrom h13 (h13 a0 1) (h13 (h13 a0 4) 1)).bind fun h41 =>
    (fX8_reset h41 (h41 a0 2)).bind fun h48 =>
    (fX6_reset h48 (h48 a0 3)).bind fun h55 =>
    (pput h55 a0 11 0).bind fun h60 =>
    some (h60 (h60 a0 4) 2, h60)
section M_X11_schema
variable {p : Program} {l : Launch} {e : Env} {R : Room} {s : State} {m : MethodId} {args : Array Value} {below : List Frame} {meth : Method} {c : Code} {D : va_G} {G : gG} {A : Nat → Prop} {H0 : Heap} {n0 : Int} {x : Option vV × hH} {h : hH}
set_option maxRecDepth 100000 in
set_option maxHeartbeats 4000000 in
theorem oX11_schema_b0 {a0 : Int} {K : Int × hH → Prop} (k0 : ∀ r, K (r) → x = (some (0, r.1), r.2)) {r : Int × hH} (hr : fX11_schema h a0 = some r) (hk : K r) : Wq p l e R s m args below meth c D G A H0 true n0 M_X11_schema x 0 0 0 [(0, (21, a0))] [] h := by
  unfold fX11_schema at hr
  refine r_aload_n dX11_schema_0 rfl 0 rfl (nl rfl) ?_
  refine r_get 11 4 (o := a0) (w := (15, h a0 4)) (T := TX11) (ref := "FollowingRefs") rfl (by decide) rfl (by decide) inlX11 (wsl_2 _ (List.mem_of_getElem? (i := 8) rfl)) rfl dX11_schema_1 rfl ?_
  obtain ⟨q4, hg4, hr⟩ := bnd hr
  refine k_V (ci := 5) (o := h a0 4) (T := TX5) (as := []) (rest := []) (X := (some (2, q4.1), q4.2)) (oX5_readSchema hg4) gX5_readSchema rfl (by decide) rfl (wsl_11 _ (List.mem_of_getElem? (i := 9) rfl)) rfl dX11_schema_4 rfl ?_
  refine r_istore_n dX11_schema_7 rfl (Or.inr rfl) (by decide) (lv' := [(1, (2, q4.1)), (0, (21, a0))]) rfl ?_
  refine r_aload_n dX11_schema_8 rfl 1 rfl (nl rfl) ?_
  refine r_get 11 0 (o := a0) (w := (19, q4.2 a0 0)) (T := TX11) (ref := "FollowingRefs") rfl (by decide) rfl (by decide) inlX11 (wsl_1 _ (List.mem_of_getElem? (i := 16) rfl)) rfl dX11_schema_9 rfl ?_
  refine r_iconst dX11_schema_12 (by decide) ?_
  obtain ⟨h13, hg13, hr⟩ := bnd hr
  refine r_put' 9 1 (t := 0) (ref := "FollowingRefs$Text") hg13 rfl tyX9 tyX9_ok nmX9 rfl (by decide) rfl (by decide) inlX9 (wsl_10 _ (List.mem_of_getElem? (i := 1) rfl)) rfl rfl (by decide +kernel) (by decide) rfl (Or.inl ⟨rfl, rfl⟩) dX11_schema_13 ?_
  refine r_iload_n dX11_schema_16 rfl 0 rfl (Or.inr rfl) ?_
  refine r_scast 0 (v := (2, q4.1)) (w := (0, q4.1)) rfl zc hTz (st' := [(0, q4.1)]) rfl ?_
  refine r_if_ne dX11_schema_17 (tgt := 30) (by decide) (fun hc => ?_) (fun hc => ?_)
  · have hr := ifn hr hc
    refine r_aload_n dX11_schema_30 rfl 1 rfl (nl rfl) ?_
    refine r_get 11 1 (o := a0) (w := (14, h13 a0 1)) (T := TX11) (ref := "FollowingRefs") rfl (by decide) rfl (by decide) inlX11 (wsl_1 _ (List.mem_of_getElem? (i := 20) rfl)) rfl dX11_schema_31 rfl ?_
    refine r_aload_n dX11_schema_34 rfl 1 rfl (nl rfl) ?_
    refine r_get 11 4 (o := a0) (w := (15, h13 a0 4)) (T := TX11) (ref := "FollowingRefs") rfl (by decide) rfl (by decide) inlX11 (wsl_2 _ (List.mem_of_getElem? (i := 8) rfl)) rfl dX11_schema_35 rfl ?_
    refine r_get 5 1 (o := h13 a0 4) (w := (14, h13 (h13 a0 4) 1)) (T := TX5) (ref := "FollowingRefs$SchemaReader") rfl (by decide) rfl (by decide) inlX5 (wsl_11 _ (List.mem_of_getElem? (i := 6) rfl)) rfl dX11_schema_38 rfl ?_
    obtain ⟨h41, hg41, hr⟩ := bnd hr
    refine k_V (ci := 4) (o := h13 a0 1) (T := TX4) (as := [(14, h13 (h13 a0 4) 1)]) (rest := []) (X := (none, h41)) (oX4_copyFrom hg41) gX4_copyFrom rfl (by decide) rfl (wsl_22 _ (List.mem_of_getElem? (i := 1) rfl)) rfl dX11_schema_41 rfl ?_
    refine r_aload_n dX11_schema_44 rfl 1 rfl (nl rfl) ?_
    refine r_get 11 2 (o := a0) (w := (18, h41 a0 2)) (T := TX11) (ref := "FollowingRefs") rfl (by decide) rfl (by decide) inlX11 (wsl_2 _ (List.mem_of_getElem? (i := 0) rfl)) rfl dX11_schema_45 rfl ?_
    obtain ⟨h48, hg48, hr⟩ := bnd hr
    refine k_V (ci := 8) (o := h41 a0 2) (T := TX8) (as := []) (rest := []) (X := (none, h48)) (oX8_reset hg48) gX8_reset rfl (by decide) rfl (wsl_22 _ (List.mem_of_getElem? (i := 14) rfl)) rfl dX11_schema_48 rfl ?_
    refine r_aload_n dX11_schema_51 rfl 1 rfl (nl rfl) ?_
    refine r_get 11 3 (o := a0) (w := (16, h48 a0 3)) (T := TX11) (ref := "FollowingRefs") rfl (by decide) rfl (by decide) inlX11 (wsl_2 _ (List.mem_of_getElem? (i := 4) rfl)) rfl dX11_schema_52 rfl ?_
    obtain ⟨h55, hg55, hr⟩ := bnd hr
    refine k_V (ci := 6) (o := h48 a0 3) (T := TX6) (as := []) (rest := []) (X := (none, h55)) (oX6_reset hg55) gX6_reset rfl (by decide) rfl (wsl_23 _ (List.mem_of_getElem? (i := 1) rfl)) rfl dX11_schema_55 rfl ?_
    refine r_aload_n dX11_schema_58 rfl 1 rfl (nl rfl) ?_
    refine r_iconst dX11_schema_59 (by decide) ?_
    obtain ⟨h60, hg60, hr⟩ := bnd hr
    refine r_put' 11 11 (t := 0) (ref := "FollowingRefs") hg60 rfl tyX11 tyX11_ok nmX11 rfl (by decide) rfl (by decide) inlX11 (wsl_11 _ (List.mem_of_getElem? (i := 7) rfl)) rfl rfl (by decide +kernel) (by decide) rfl (Or.inl ⟨rfl, rfl⟩) dX11_schema_60 ?_
    refine r_aload_n dX11_schema_63 rfl 1 rfl (nl rfl) ?_
    refine r_get 11 4 (o := a0) (w := (15, h60 a0 4)) (T := TX11) (ref := "FollowingRefs") rfl (by decide) rfl (by decide) inlX11 (wsl_2 _ (List.mem_of_getElem? (i := 8) rfl)) rfl dX11_schema_64 rfl ?_
    refine r_get 5 2 (o := h60 a0 4) (w := (0, h60 (h60 a0 4) 2)) (T := TX5) (ref := "FollowingRefs$SchemaReader") rfl (by decide) rfl (by decide) inlX5 (wsl_11 _ (List.mem_of_getElem? (i := 8) rfl)) rfl dX11_schema_67 rfl ?_
    obtain rfl := Option.some.inj hr
    exact r_ret dX11_schema_70 rfl (Or.inl ⟨rfl, rfl⟩) (k0 _ hk) ⟨rfl, rfl⟩
  · have hr := ifp hr hc
    refine r_iconst dX11_schema_20 (by decide) ?_
    refine r_aload_n dX11_schema_21 rfl 1 rfl (nl rfl) ?_
    refine r_get 11 0 (o := a0) (w := (19, h13 a0 0)) (T := TX11) (ref := "FollowingRefs") rfl (by decide) rfl (by decide) inlX11 (wsl_1 _ (List.mem_of_getElem? (i := 16) rfl)) rfl dX11_schema_22 rfl ?_
    refine r_get 9 9 (o := h13 a0 0) (w := (0, h13 (h13 a0 0) 9)) (T := TX9) (ref := "FollowingRefs$Text") rfl (by decide) rfl (by decide) inlX9 (wsl_11 _ (List.mem_of_getElem? (i := 5) rfl)) rfl dX11_schema_25 rfl ?_
    refine r_isub dX11_schema_28 ?_
    obtain rfl := Option.some.inj hr
    exact r_ret dX11_schema_29 rfl (Or.inl ⟨rfl, rfl⟩) (k0 _ hk) ⟨rfl, rfl⟩
end M_X11_schema
theorem oX11_schema {l : Launch} {D : va_G} {G : gG} {h : hH} {a0 : Int} {r : Int × hH} (hr : fX11_schema h a0 = some r) : Ctr l D G true yX11_schema M_X11_schema [(21, a0)] h (some (0, r.1), r.2) :=
  Ctr_of (by decide) rfl (fun z => by cases z) (nl rfl) (fun {p e R s m args below meth c A H0} => by
    exact oX11_schema_b0 (K := fun z9 => z9 = r) (fun r9 z => by rw [z]) hr rfl)
/-! X11_fault -/
theorem dX11_fault_0 : decode cX11_fault 0 = .ok (.aload_n 0, 1) := by decide +kernel
theorem dX11_fault_1 : decode cX11_fault 1 = .ok (.getfield 12, 3) := by decide +kernel
theorem dX11_fault_4 : decode cX11_fault 4 = .ok (.getfield 134, 3) := by decide +kernel
theorem dX11_fault_7 : decode cX11_fault 7 = .ok (.ireturn, 1) := by decide +kernel
abbrev M_X11_fault : mM := (cX11_fault, 1, RX11, some .int, false, 0, 0, 0, 0)
theorem gX11_fault : cI yX11_fault M_X11_fault 0 := ⟨(wsl_28 _ (List.mem_of_getElem? (i := 17) rfl)), (wsl_28 _ (List.mem_of_getElem? (i := 18) rfl)), (wsl_1 _ (List.mem_of_getElem? (i := 2) rfl)), (wsl_28 _ (List.mem_of_getElem? (i := 19) rfl)), by decide +kernel⟩
noncomputable def fX11_fault (h : hH) (a0 : Int) : Option (Int) :=
  some (h (h a0 0) 8)
section M_X11_fault
variable {p : Program} {l : Launch} {e : Env} {R : Room} {s : State} {m : MethodId} {args : Array Value} {below : List Frame} {meth : Method} {c : Code} {D : va_G} {G : gG} {A : Nat → Prop} {H0 : Heap} {n0 : Int} {x : Option vV × hH} {h : hH}
set_option maxRecDepth 100000 in
set_option maxHeartbeats 4000000 in
theorem oX11_fault_b0 {a0 : Int} {K : Int → Prop} (k0 : ∀ r, K (r) → x = (some (0, r), h)) {r : Int} (hr : fX11_fault h a0 = some r) (hk : K r) : Wq p l e R s m args below meth c D G A H0 true n0 M_X11_fault x 0 0 0 [(0, (21, a0))] [] h := by
  unfold fX11_fault at hr
  refine r_aload_n dX11_fault_0 rfl 0 rfl (nl rfl) ?_
  refine r_get 11 0 (o := a0) (w := (19, h a0 0)) (T := TX11) (ref := "FollowingRefs") rfl (by decide) rfl (by decide) inlX11 (wsl_1 _ (List.mem_of_getElem? (i := 16) rfl)) rfl dX11_fault_1 rfl ?_
  refine r_get 9 8 (o := h a0 0) (w := (0, h (h a0 0) 8)) (T := TX9) (ref := "FollowingRefs$Text") rfl (by decide) rfl (by decide) inlX9 (wsl_28 _ (List.mem_of_getElem? (i := 20) rfl)) rfl dX11_fault_4 rfl ?_
  obtain rfl := Option.some.inj hr
  exact r_ret dX11_fault_7 rfl (Or.inl ⟨rfl, rfl⟩) (k0 _ hk) ⟨rfl, rfl⟩
end M_X11_fault
theorem oX11_fault {l : Launch} {D : va_G} {G : gG} {h : hH} {a0 : Int} {r : Int} (hr : fX11_fault h a0 = some r) : Ctr l D G true yX11_fault M_X11_fault [(21, a0)] h (some (0, r), h) :=
  Ctr_of (by decide) rfl (fun z => by cases z) (nl rfl) (fun {p e R s m args below meth c A H0} => by
    exact oX11_fault_b0 (K := fun z9 => z9 = r) (fun r9 z => by rw [z]) hr rfl)
/-! X11_forgetOldest -/
theorem dX11_forgetOldest_0 : decode cX11_forgetOldest 0 = .ok (.iconst 1, 1) := by decide +kernel
theorem dX11_forgetOldest_1 : decode cX11_forgetOldest 1 = .ok (.istore_n 1, 1) := by decide +kernel
theorem dX11_forgetOldest_2 : decode cX11_forgetOldest 2 = .ok (.iload_n 1, 1) := by decide +kernel
theorem dX11_forgetOldest_3 : decode cX11_forgetOldest 3 = .ok (.aload_n 0, 1) := by decide +kernel
theorem dX11_forgetOldest_4 : decode cX11_forgetOldest 4 = .ok (.getfield 77, 3) := by decide +kernel
theorem dX11_forgetOldest_7 : decode cX11_forgetOldest 7 = .ok (.arraylength, 1) := by decide +kernel
theorem dX11_forgetOldest_8 : decode cX11_forgetOldest 8 = .ok (.if_icmp .ge 39, 3) := by decide +kernel
theorem dX11_forgetOldest_11 : decode cX11_forgetOldest 11 = .ok (.aload_n 0, 1) := by decide +kernel
theorem dX11_forgetOldest_12 : decode cX11_forgetOldest 12 = .ok (.getfield 77, 3) := by decide +kernel
theorem dX11_forgetOldest_15 : decode cX11_forgetOldest 15 = .ok (.iload_n 1, 1) := by decide +kernel
theorem dX11_forgetOldest_16 : decode cX11_forgetOldest 16 = .ok (.iconst 1, 1) := by decide +kernel
theorem dX11_forgetOldest_17 : decode cX11_forgetOldest 17 = .ok (.isub, 1) := by decide +kernel
theorem dX11_forgetOldest_18 : decode cX11_forgetOldest 18 = .ok (.aaload, 1) := by decide +kernel
theorem dX11_forgetOldest_19 : decode cX11_forgetOldest 19 = .ok (.astore_n 2, 1) := by decide +kernel
theorem dX11_forgetOldest_20 : decode cX11_forgetOldest 20 = .ok (.aload_n 0, 1) := by decide +kernel
theorem dX11_forgetOldest_21 : decode cX11_forgetOldest 21 = .ok (.getfield 77, 3) := by decide +kernel
theorem dX11_forgetOldest_24 : decode cX11_forgetOldest 24 = .ok (.iload_n 1, 1) := by decide +kernel
theorem dX11_forgetOldest_25 : decode cX11_forgetOldest 25 = .ok (.iconst 1, 1) := by decide +kernel
theorem dX11_forgetOldest_26 : decode cX11_forgetOldest 26 = .ok (.isub, 1) := by decide +kernel
theorem dX11_forgetOldest_27 : decode cX11_forgetOldest 27 = .ok (.aload_n 0, 1) := by decide +kernel
theorem dX11_forgetOldest_28 : decode cX11_forgetOldest 28 = .ok (.getfield 77, 3) := by decide +kernel
theorem dX11_forgetOldest_31 : decode cX11_forgetOldest 31 = .ok (.iload_n 1, 1) := by decide +kernel
theorem dX11_forgetOldest_32 : decode cX11_forgetOldest 32 = .ok (.aaload, 1) := by decide +kernel
theorem dX11_forgetOldest_33 : decode cX11_forgetOldest 33 = .ok (.aastore, 1) := by decide +kernel
theorem dX11_forgetOldest_34 : decode cX11_forgetOldest 34 = .ok (.aload_n 0, 1) := by decide +kernel
theorem dX11_forgetOldest_35 : decode cX11_forgetOldest 35 = .ok (.getfield 77, 3) := by decide +kernel
theorem dX11_forgetOldest_38 : decode cX11_forgetOldest 38 = .ok (.iload_n 1, 1) := by decide +kernel
theorem dX11_forgetOldest_39 : decode cX11_forgetOldest 39 = .ok (.aload_n 2, 1) := by decide +kernel
theorem dX11_forgetOldest_40 : decode cX11_forgetOldest 40 = .ok (.aastore, 1) := by decide +kernel
theorem dX11_forgetOldest_41 : decode cX11_forgetOldest 41 = .ok (.iinc 1 1, 3) := by decide +kernel
theorem dX11_forgetOldest_44 : decode cX11_forgetOldest 44 = .ok (.goto (-42), 3) := by decide +kernel
theorem dX11_forgetOldest_47 : decode cX11_forgetOldest 47 = .ok (.aload_n 0, 1) := by decide +kernel
theorem dX11_forgetOldest_48 : decode cX11_forgetOldest 48 = .ok (.aload_n 0, 1) := by decide +kernel
theorem dX11_forgetOldest_49 : decode cX11_forgetOldest 49 = .ok (.getfield 77, 3) := by decide +kernel
theorem dX11_forgetOldest_52 : decode cX11_forgetOldest 52 = .ok (.arraylength, 1) := by decide +kernel
theorem dX11_forgetOldest_53 : decode cX11_forgetOldest 53 = .ok (.iconst 1, 1) := by decide +kernel
theorem dX11_forgetOldest_54 : decode cX11_forgetOldest 54 = .ok (.isub, 1) := by decide +kernel
theorem dX11_forgetOldest_55 : decode cX11_forgetOldest 55 = .ok (.putfield 128, 3) := by decide +kernel
theorem dX11_forgetOldest_58 : decode cX11_forgetOldest 58 = .ok (.return_, 1) := by decide +kernel
abbrev M_X11_forgetOldest : mM := (cX11_forgetOldest, 3, RX11, none, false, 0, 0, 0, 0)
theorem gX11_forgetOldest : cI yX11_forgetOldest M_X11_forgetOldest 0 := ⟨(wsl_39 _ (List.mem_of_getElem? (i := 22) rfl)), (wsl_39 _ (List.mem_of_getElem? (i := 23) rfl)), (wsl_1 _ (List.mem_of_getElem? (i := 2) rfl)), (wsl_40 _ (List.mem_of_getElem? (i := 0) rfl)), by decide +kernel⟩
noncomputable def fX11_forgetOldest_s2 (h0 : hH) (a0 : Int) : hH × Int → Option ((hH × Int) ⊕ (hH)) := fun (h, l1) =>
  if l1 < h (h a0 10) (-1) then
    (aget h (h a0 10) (w32 (l1 - 1))).bind fun v18 =>
    (aget h (h a0 10) l1).bind fun v32 =>
    (nng v32).bind fun _ =>
    (aput h (h a0 10) (w32 (l1 - 1)) v32).bind fun h33 =>
    (nng v18).bind fun _ =>
    (aput h33 (h33 a0 10) l1 v18).bind fun h40 =>
    some (.inl (h40, w32 (l1 + 1)))
  else
    (pput h a0 11 (w32 ((h (h a0 10) (-1)) - 1))).bind fun h55 =>
    some (.inr (h55))
noncomputable def fX11_forgetOldest (h : hH) (a0 : Int) : Option (hH) :=
  lpO (fX11_forgetOldest_s2 h a0) (h, 1)
section M_X11_forgetOldest
variable {p : Program} {l : Launch} {e : Env} {R : Room} {s : State} {m : MethodId} {args : Array Value} {below : List Frame} {meth : Method} {c : Code} {D : va_G} {G : gG} {A : Nat → Prop} {H0 : Heap} {n0 : Int} {x : Option vV × hH} {h : hH}
set_option maxRecDepth 100000 in
set_option maxHeartbeats 4000000 in
theorem oX11_forgetOldest_s2 {h0 : hH} {a0 l1 : Int} {K : (hH × Int) ⊕ (hH) → Prop} (k0 : ∀ r, K (.inr (r)) → x = (none, r)) (k1 : ∀ (h : hH) (l1 : Int), K (.inl (h, l1)) → Wq p l e R s m args below meth c D G A H0 true n0 M_X11_forgetOldest x 0 0 2 [(0, (21, a0)), (1, (0, l1))] [] h) {r : (hH × Int) ⊕ (hH)} (hr : fX11_forgetOldest_s2 h0 a0 (h, l1) = some r) (hk : K r) : Wq p l e R s m args below meth c D G A H0 true n0 M_X11_forgetOldest x 0 0 2 [(0, (21, a0)), (1, (0, l1))] [] h := by
  unfold fX11_forgetOldest_s2 at hr
  refine r_iload_n dX11_forgetOldest_2 rfl 1 rfl (Or.inl rfl) ?_
  refine r_aload_n dX11_forgetOldest_3 rfl 0 rfl (nl rfl) ?_
  refine r_get 11 10 (o := a0) (w := (54, h a0 10)) (T := TX11) (ref := "FollowingRefs") rfl (by decide) rfl (by decide) inlX11 (wsl_2 _ (List.mem_of_getElem? (i := 23) rfl)) rfl dX11_forgetOldest_4 rfl ?_
  refine r_alen (t := 54) (by decide) (by decide) dX11_forgetOldest_7 ?_
  refine r_icmp_ge dX11_forgetOldest_8 (tgt := 47) (by decide) (fun hc => ?_) (fun hc => ?_)
  · have hr := ifn hr hc
    refine r_aload_n dX11_forgetOldest_47 rfl 0 rfl (nl rfl) ?_
    refine r_aload_n dX11_forgetOldest_48 rfl 0 rfl (nl rfl) ?_
    refine r_get 11 10 (o := a0) (w := (54, h a0 10)) (T := TX11) (ref := "FollowingRefs") rfl (by decide) rfl (by decide) inlX11 (wsl_2 _ (List.mem_of_getElem? (i := 23) rfl)) rfl dX11_forgetOldest_49 rfl ?_
    refine r_alen (t := 54) (by decide) (by decide) dX11_forgetOldest_52 ?_
    refine r_iconst dX11_forgetOldest_53 (by decide) ?_
    refine r_isub dX11_forgetOldest_54 ?_
    obtain ⟨h55, hg55, hr⟩ := bnd hr
    refine r_put' 11 11 (t := 0) (ref := "FollowingRefs") hg55 rfl tyX11 tyX11_ok nmX11 rfl (by decide) rfl (by decide) inlX11 (wsl_11 _ (List.mem_of_getElem? (i := 7) rfl)) rfl rfl (by decide +kernel) (by decide) rfl (Or.inl ⟨rfl, rfl⟩) dX11_forgetOldest_55 ?_
    obtain rfl := Option.some.inj hr
    exact r_vret dX11_forgetOldest_58 rfl (k0 _ hk) ⟨rfl, rfl⟩
  · have hr := ifp hr hc
    refine r_aload_n dX11_forgetOldest_11 rfl 0 rfl (nl rfl) ?_
    refine r_get 11 10 (o := a0) (w := (54, h a0 10)) (T := TX11) (ref := "FollowingRefs") rfl (by decide) rfl (by decide) inlX11 (wsl_2 _ (List.mem_of_getElem? (i := 23) rfl)) rfl dX11_forgetOldest_12 rfl ?_
    refine r_iload_n dX11_forgetOldest_15 rfl 1 rfl (Or.inl rfl) ?_
    refine r_iconst dX11_forgetOldest_16 (by decide) ?_
    refine r_isub dX11_forgetOldest_17 ?_
    obtain ⟨v18, hg18, hr⟩ := bnd hr
    refine r_rald dX11_forgetOldest_18 hg18 ?_
    refine r_astore_n dX11_forgetOldest_19 rfl (nl rfl) (by decide) (lv' := [(2, (118, v18)), (0, (21, a0)), (1, (0, l1))]) rfl ?_
    refine r_aload_n dX11_forgetOldest_20 rfl 1 rfl (nl rfl) ?_
    refine r_get 11 10 (o := a0) (w := (54, h a0 10)) (T := TX11) (ref := "FollowingRefs") rfl (by decide) rfl (by decide) inlX11 (wsl_2 _ (List.mem_of_getElem? (i := 23) rfl)) rfl dX11_forgetOldest_21 rfl ?_
    refine r_iload_n dX11_forgetOldest_24 rfl 2 rfl (Or.inl rfl) ?_
    refine r_iconst dX11_forgetOldest_25 (by decide) ?_
    refine r_isub dX11_forgetOldest_26 ?_
    refine r_aload_n dX11_forgetOldest_27 rfl 1 rfl (nl rfl) ?_
    refine r_get 11 10 (o := a0) (w := (54, h a0 10)) (T := TX11) (ref := "FollowingRefs") rfl (by decide) rfl (by decide) inlX11 (wsl_2 _ (List.mem_of_getElem? (i := 23) rfl)) rfl dX11_forgetOldest_28 rfl ?_
    refine r_iload_n dX11_forgetOldest_31 rfl 2 rfl (Or.inl rfl) ?_
    obtain ⟨v32, hg32, hr⟩ := bnd hr
    refine r_rald dX11_forgetOldest_32 hg32 ?_
    obtain ⟨_z33, hz33, hr⟩ := bnd hr
    obtain ⟨h33, hg33, hr⟩ := bnd hr
    refine r_rast dX11_forgetOldest_33 hg33 (nng_ok hz33) ?_
    refine r_aload_n dX11_forgetOldest_34 rfl 1 rfl (nl rfl) ?_
    refine r_get 11 10 (o := a0) (w := (54, h33 a0 10)) (T := TX11) (ref := "FollowingRefs") rfl (by decide) rfl (by decide) inlX11 (wsl_2 _ (List.mem_of_getElem? (i := 23) rfl)) rfl dX11_forgetOldest_35 rfl ?_
    refine r_iload_n dX11_forgetOldest_38 rfl 2 rfl (Or.inl rfl) ?_
    refine r_aload_n dX11_forgetOldest_39 rfl 0 rfl (nl rfl) ?_
    obtain ⟨_z40, hz40, hr⟩ := bnd hr
    obtain ⟨h40, hg40, hr⟩ := bnd hr
    refine r_rast dX11_forgetOldest_40 hg40 (nng_ok hz40) ?_
    refine r_iinc (k := 2) (v := l1) dX11_forgetOldest_41 rfl (by decide) (lv' := [(1, (0, w32 (l1 + 1))), (2, (118, v18)), (0, (21, a0))]) rfl ?_
    refine r_goto dX11_forgetOldest_44 (tgt := 2) (by decide) ?_
    refine r_sub [2, 0] (lv' := [(0, (21, a0)), (1, (0, w32 (l1 + 1)))]) rfl ?_
    obtain rfl := Option.some.inj hr
    exact k1 _ _ hk
set_option maxRecDepth 100000 in
set_option maxHeartbeats 4000000 in
theorem oX11_forgetOldest_b0 {a0 : Int} {K : hH → Prop} (k0 : ∀ r, K (r) → x = (none, r)) {r : hH} (hr : fX11_forgetOldest h a0 = some r) (hk : K r) : Wq p l e R s m args below meth c D G A H0 true n0 M_X11_forgetOldest x 0 0 0 [(0, (21, a0))] [] h := by
  unfold fX11_forgetOldest at hr
  refine r_iconst dX11_forgetOldest_0 (by decide) ?_
  refine r_istore_n dX11_forgetOldest_1 rfl (Or.inl rfl) (by decide) (lv' := [(1, (0, 1)), (0, (21, a0))]) rfl ?_
  refine r_sub [1, 0] (lv' := [(0, (21, a0)), (1, (0, 1))]) rfl ?_
  exact lp_ok (w := fun (q : hH × Int) => Wq p l e R s m args below meth c D G A H0 true n0 M_X11_forgetOldest x 0 0 2 [(0, (21, a0)), (1, (0, q.2))] [] (q.1)) (K := K) (fun ⟨q0, q1⟩ r h1 h2 => oX11_forgetOldest_s2 (K := Sum.elim (fun (q : hH × Int) => Wq p l e R s m args below meth c D G A H0 true n0 M_X11_forgetOldest x 0 0 2 [(0, (21, a0)), (1, (0, q.2))] [] (q.1)) (K)) (fun r z => k0 r z) (fun _ _ z => z) h1 h2) hr hk
end M_X11_forgetOldest
theorem oX11_forgetOldest {l : Launch} {D : va_G} {G : gG} {h : hH} {a0 : Int} {r : hH} (hr : fX11_forgetOldest h a0 = some r) : Ctr l D G true yX11_forgetOldest M_X11_forgetOldest [(21, a0)] h (none, r) :=
  Ctr_of (by decide) rfl (fun z => by cases z) (nl rfl) (fun {p e R s m args below meth c A H0} => by
    exact oX11_forgetOldest_b0 (K := fun z9 => z9 = r) (fun r9 z => by rw [z]) hr rfl)
/-! X11_keepForUndo -/
theorem dX11_keepForUndo_0 : decode cX11_keepForUndo 0 = .ok (.aload_n 0, 1) := by decide +kernel
theorem dX11_keepForUndo_1 : decode cX11_keepForUndo 1 = .ok (.getfield 128, 3) := by decide +kernel
theorem dX11_keepForUndo_4 : decode cX11_keepForUndo 4 = .ok (.aload_n 0, 1) := by decide +kernel
theorem dX11_keepForUndo_5 : decode cX11_keepForUndo 5 = .ok (.getfield 77, 3) := by decide +kernel
theorem dX11_keepForUndo_8 : decode cX11_keepForUndo 8 = .ok (.arraylength, 1) := by decide +kernel
theorem dX11_keepForUndo_9 : decode cX11_keepForUndo 9 = .ok (.if_icmp .lt 7, 3) := by decide +kernel
theorem dX11_keepForUndo_12 : decode cX11_keepForUndo 12 = .ok (.aload_n 0, 1) := by decide +kernel
theorem dX11_keepForUndo_13 : decode cX11_keepForUndo 13 = .ok (.invokevirtual 219, 3) := by decide +kernel
theorem dX11_keepForUndo_16 : decode cX11_keepForUndo 16 = .ok (.aload_n 0, 1) := by decide +kernel
theorem dX11_keepForUndo_17 : decode cX11_keepForUndo 17 = .ok (.getfield 128, 3) := by decide +kernel
theorem dX11_keepForUndo_20 : decode cX11_keepForUndo 20 = .ok (.ifCond .lt 27, 3) := by decide +kernel
theorem dX11_keepForUndo_23 : decode cX11_keepForUndo 23 = .ok (.aload_n 0, 1) := by decide +kernel
theorem dX11_keepForUndo_24 : decode cX11_keepForUndo 24 = .ok (.getfield 128, 3) := by decide +kernel
theorem dX11_keepForUndo_27 : decode cX11_keepForUndo 27 = .ok (.aload_n 0, 1) := by decide +kernel
theorem dX11_keepForUndo_28 : decode cX11_keepForUndo 28 = .ok (.getfield 77, 3) := by decide +kernel
theorem dX11_keepForUndo_31 : decode cX11_keepForUndo 31 = .ok (.arraylength, 1) := by decide +kernel
theorem dX11_keepForUndo_32 : decode cX11_keepForUndo 32 = .ok (.if_icmp .ge 15, 3) := by decide +kernel
theorem dX11_keepForUndo_35 : decode cX11_keepForUndo 35 = .ok (.aload_n 0, 1) := by decide +kernel
theorem dX11_keepForUndo_36 : decode cX11_keepForUndo 36 = .ok (.getfield 77, 3) := by decide +kernel
theorem dX11_keepForUndo_39 : decode cX11_keepForUndo 39 = .ok (.aload_n 0, 1) := by decide +kernel
theorem dX11_keepForUndo_40 : decode cX11_keepForUndo 40 = .ok (.getfield 128, 3) := by decide +kernel
theorem dX11_keepForUndo_43 : decode cX11_keepForUndo 43 = .ok (.aaload, 1) := by decide +kernel
theorem dX11_keepForUndo_44 : decode cX11_keepForUndo 44 = .ok (.goto 4, 3) := by decide +kernel
theorem dX11_keepForUndo_47 : decode cX11_keepForUndo 47 = .ok (.aconst_null, 1) := by decide +kernel
theorem dX11_keepForUndo_48 : decode cX11_keepForUndo 48 = .ok (.astore_n 2, 1) := by decide +kernel
theorem dX11_keepForUndo_49 : decode cX11_keepForUndo 49 = .ok (.aload_n 2, 1) := by decide +kernel
theorem dX11_keepForUndo_50 : decode cX11_keepForUndo 50 = .ok (.ifnull 18, 3) := by decide +kernel
theorem dX11_keepForUndo_53 : decode cX11_keepForUndo 53 = .ok (.aload_n 2, 1) := by decide +kernel
theorem dX11_keepForUndo_54 : decode cX11_keepForUndo 54 = .ok (.aload_n 1, 1) := by decide +kernel
theorem dX11_keepForUndo_55 : decode cX11_keepForUndo 55 = .ok (.invokevirtual 217, 3) := by decide +kernel
theorem dX11_keepForUndo_58 : decode cX11_keepForUndo 58 = .ok (.aload_n 0, 1) := by decide +kernel
theorem dX11_keepForUndo_59 : decode cX11_keepForUndo 59 = .ok (.dup, 1) := by decide +kernel
theorem dX11_keepForUndo_60 : decode cX11_keepForUndo 60 = .ok (.getfield 128, 3) := by decide +kernel
theorem dX11_keepForUndo_63 : decode cX11_keepForUndo 63 = .ok (.iconst 1, 1) := by decide +kernel
theorem dX11_keepForUndo_64 : decode cX11_keepForUndo 64 = .ok (.iadd, 1) := by decide +kernel
theorem dX11_keepForUndo_65 : decode cX11_keepForUndo 65 = .ok (.putfield 128, 3) := by decide +kernel
theorem dX11_keepForUndo_68 : decode cX11_keepForUndo 68 = .ok (.return_, 1) := by decide +kernel
abbrev M_X11_keepForUndo : mM := (cX11_keepForUndo, 3, RX11, none, false, 4, 147, 0, 0)
theorem gX11_keepForUndo : cI yX11_keepForUndo M_X11_keepForUndo 1 := ⟨(wsl_39 _ (List.mem_of_getElem? (i := 18) rfl)), (wsl_39 _ (List.mem_of_getElem? (i := 19) rfl)), (wsl_1 _ (List.mem_of_getElem? (i := 2) rfl)), (wsl_39 _ (List.mem_of_getElem? (i := 20) rfl)), by decide +kernel⟩
noncomputable def fX11_keepForUndo_b48 (h : hH) (a0 a1 s0 : Int) : Option (hH) :=
  if s0 < 0 then
    some h
  else
    (fX8_copyFrom h s0 a1).bind fun h55 =>
    (pput h55 a0 11 (w32 ((h55 a0 11) + 1))).bind fun h65 =>
    some h65
noncomputable def fX11_keepForUndo_b47 (h : hH) (a0 a1 : Int) : Option (hH) :=
  fX11_keepForUndo_b48 h a0 a1 (-1)
noncomputable def fX11_keepForUndo_b16 (h : hH) (a0 a1 : Int) : Option (hH) :=
  if h a0 11 < 0 then
    fX11_keepForUndo_b47 h a0 a1
  else
    if h a0 11 < h (h a0 10) (-1) then
      (aget h (h a0 10) (h a0 11)).bind fun v43 =>
      fX11_keepForUndo_b48 h a0 a1 v43
    else
      fX11_keepForUndo_b47 h a0 a1
noncomputable def fX11_keepForUndo (h : hH) (a0 a1 : Int) : Option (hH) :=
  if h a0 11 < h (h a0 10) (-1) then
    fX11_keepForUndo_b16 h a0 a1
  else
    (fX11_forgetOldest h a0).bind fun h13 =>
    fX11_keepForUndo_b16 h13 a0 a1
section M_X11_keepForUndo
variable {p : Program} {l : Launch} {e : Env} {R : Room} {s : State} {m : MethodId} {args : Array Value} {below : List Frame} {meth : Method} {c : Code} {D : va_G} {G : gG} {A : Nat → Prop} {H0 : Heap} {n0 : Int} {x : Option vV × hH} {h : hH}
set_option maxRecDepth 100000 in
set_option maxHeartbeats 4000000 in
theorem oX11_keepForUndo_b48 {a0 a1 s0 : Int} {K : hH → Prop} (k0 : ∀ r, K (r) → x = (none, r)) {r : hH} (hr : fX11_keepForUndo_b48 h a0 a1 s0 = some r) (hk : K r) : Wq p l e R s m args below meth c D G A H0 true n0 M_X11_keepForUndo x 0 0 48 [(0, (21, a0)), (1, (18, a1))] [(118, s0)] h := by
  unfold fX11_keepForUndo_b48 at hr
  refine r_astore_n dX11_keepForUndo_48 rfl (nl rfl) (by decide) (lv' := [(2, (118, s0)), (0, (21, a0)), (1, (18, a1))]) rfl ?_
  refine r_aload_n dX11_keepForUndo_49 rfl 0 rfl (nl rfl) ?_
  refine r_ifnull (v := (118, s0)) (nl rfl) dX11_keepForUndo_50 (tgt := 68) (by decide) (fun hc => ?_) (fun hc => ?_)
  · have hr := ifp hr hc
    obtain rfl := Option.some.inj hr
    exact r_vret dX11_keepForUndo_68 rfl (k0 _ hk) ⟨rfl, rfl⟩
  · have hr := ifn hr (Int.not_lt.mpr hc)
    refine r_lcast 0 (v := (118, s0)) (w := (18, s0)) rfl (cnn (t := 15)) (hTn (t := 15) (by decide) hc) (lv' := [(2, (18, s0)), (0, (21, a0)), (1, (18, a1))]) rfl ?_
    refine r_aload_n dX11_keepForUndo_53 rfl 0 rfl (nl rfl) ?_
    refine r_aload_n dX11_keepForUndo_54 rfl 2 rfl (nl rfl) ?_
    obtain ⟨h55, hg55, hr⟩ := bnd hr
    refine k_V (ci := 8) (o := s0) (T := TX8) (as := [(18, a1)]) (rest := []) (X := (none, h55)) (oX8_copyFrom hg55) gX8_copyFrom rfl (by decide) rfl (wsl_40 _ (List.mem_of_getElem? (i := 1) rfl)) rfl dX11_keepForUndo_55 rfl ?_
    refine r_aload_n dX11_keepForUndo_58 rfl 1 rfl (nl rfl) ?_
    refine r_dup dX11_keepForUndo_59 (Nat.ne_of_beq_eq_false rfl) ?_
    refine r_get 11 11 (o := a0) (w := (0, h55 a0 11)) (T := TX11) (ref := "FollowingRefs") rfl (by decide) rfl (by decide) inlX11 (wsl_11 _ (List.mem_of_getElem? (i := 7) rfl)) rfl dX11_keepForUndo_60 rfl ?_
    refine r_iconst dX11_keepForUndo_63 (by decide) ?_
    refine r_iadd dX11_keepForUndo_64 ?_
    obtain ⟨h65, hg65, hr⟩ := bnd hr
    refine r_put' 11 11 (t := 0) (ref := "FollowingRefs") hg65 rfl tyX11 tyX11_ok nmX11 rfl (by decide) rfl (by decide) inlX11 (wsl_11 _ (List.mem_of_getElem? (i := 7) rfl)) rfl rfl (by decide +kernel) (by decide) rfl (Or.inl ⟨rfl, rfl⟩) dX11_keepForUndo_65 ?_
    obtain rfl := Option.some.inj hr
    exact r_vret dX11_keepForUndo_68 rfl (k0 _ hk) ⟨rfl, rfl⟩
set_option maxRecDepth 100000 in
set_option maxHeartbeats 4000000 in
theorem oX11_keepForUndo_b47 {a0 a1 : Int} {K : hH → Prop} (k0 : ∀ r, K (r) → x = (none, r)) {r : hH} (hr : fX11_keepForUndo_b47 h a0 a1 = some r) (hk : K r) : Wq p l e R s m args below meth c D G A H0 true n0 M_X11_keepForUndo x 0 0 47 [(0, (21, a0)), (1, (18, a1))] [] h := by
  unfold fX11_keepForUndo_b47 at hr
  refine r_null (t := 100) (by decide) dX11_keepForUndo_47 ?_
  refine r_scast 0 (v := (100, -1)) (w := (118, -1)) rfl (fun _ => rfl) (fun _ => Or.inl ⟨by decide, rfl⟩) (st' := [(118, -1)]) rfl ?_
  exact oX11_keepForUndo_b48 (K := K) (fun r z => k0 r z) hr hk
set_option maxRecDepth 100000 in
set_option maxHeartbeats 4000000 in
theorem oX11_keepForUndo_b16 {a0 a1 : Int} {K : hH → Prop} (k0 : ∀ r, K (r) → x = (none, r)) {r : hH} (hr : fX11_keepForUndo_b16 h a0 a1 = some r) (hk : K r) : Wq p l e R s m args below meth c D G A H0 true n0 M_X11_keepForUndo x 0 0 16 [(0, (21, a0)), (1, (18, a1))] [] h := by
  unfold fX11_keepForUndo_b16 at hr
  refine r_aload_n dX11_keepForUndo_16 rfl 0 rfl (nl rfl) ?_
  refine r_get 11 11 (o := a0) (w := (0, h a0 11)) (T := TX11) (ref := "FollowingRefs") rfl (by decide) rfl (by decide) inlX11 (wsl_11 _ (List.mem_of_getElem? (i := 7) rfl)) rfl dX11_keepForUndo_17 rfl ?_
  refine r_if_lt dX11_keepForUndo_20 (tgt := 47) (by decide) (fun hc => ?_) (fun hc => ?_)
  · have hr := ifp hr hc
    exact oX11_keepForUndo_b47 (K := K) (fun r z => k0 r z) hr hk
  · have hr := ifn hr hc
    refine r_aload_n dX11_keepForUndo_23 rfl 0 rfl (nl rfl) ?_
    refine r_get 11 11 (o := a0) (w := (0, h a0 11)) (T := TX11) (ref := "FollowingRefs") rfl (by decide) rfl (by decide) inlX11 (wsl_11 _ (List.mem_of_getElem? (i := 7) rfl)) rfl dX11_keepForUndo_24 rfl ?_
    refine r_aload_n dX11_keepForUndo_27 rfl 0 rfl (nl rfl) ?_
    refine r_get 11 10 (o := a0) (w := (54, h a0 10)) (T := TX11) (ref := "FollowingRefs") rfl (by decide) rfl (by decide) inlX11 (wsl_2 _ (List.mem_of_getElem? (i := 23) rfl)) rfl dX11_keepForUndo_28 rfl ?_
    refine r_alen (t := 54) (by decide) (by decide) dX11_keepForUndo_31 ?_
    refine r_icmp_ge dX11_keepForUndo_32 (tgt := 47) (by decide) (fun hc => ?_) (fun hc => ?_)
    · have hr := ifn hr hc
      exact oX11_keepForUndo_b47 (K := K) (fun r z => k0 r z) hr hk
    · have hr := ifp hr hc
      refine r_aload_n dX11_keepForUndo_35 rfl 0 rfl (nl rfl) ?_
      refine r_get 11 10 (o := a0) (w := (54, h a0 10)) (T := TX11) (ref := "FollowingRefs") rfl (by decide) rfl (by decide) inlX11 (wsl_2 _ (List.mem_of_getElem? (i := 23) rfl)) rfl dX11_keepForUndo_36 rfl ?_
      refine r_aload_n dX11_keepForUndo_39 rfl 0 rfl (nl rfl) ?_
      refine r_get 11 11 (o := a0) (w := (0, h a0 11)) (T := TX11) (ref := "FollowingRefs") rfl (by decide) rfl (by decide) inlX11 (wsl_11 _ (List.mem_of_getElem? (i := 7) rfl)) rfl dX11_keepForUndo_40 rfl ?_
      obtain ⟨v43, hg43, hr⟩ := bnd hr
      refine r_rald dX11_keepForUndo_43 hg43 ?_
      refine r_goto dX11_keepForUndo_44 (tgt := 48) (by decide) ?_
      exact oX11_keepForUndo_b48 (K := K) (fun r z => k0 r z) hr hk
set_option maxRecDepth 100000 in
set_option maxHeartbeats 4000000 in
theorem oX11_keepForUndo_b0 {a0 a1 : Int} {K : hH → Prop} (k0 : ∀ r, K (r) → x = (none, r)) {r : hH} (hr : fX11_keepForUndo h a0 a1 = some r) (hk : K r) : Wq p l e R s m args below meth c D G A H0 true n0 M_X11_keepForUndo x 0 0 0 [(0, (21, a0)), (1, (18, a1))] [] h := by
  unfold fX11_keepForUndo at hr
  refine r_aload_n dX11_keepForUndo_0 rfl 0 rfl (nl rfl) ?_
  refine r_get 11 11 (o := a0) (w := (0, h a0 11)) (T := TX11) (ref := "FollowingRefs") rfl (by decide) rfl (by decide) inlX11 (wsl_11 _ (List.mem_of_getElem? (i := 7) rfl)) rfl dX11_keepForUndo_1 rfl ?_
  refine r_aload_n dX11_keepForUndo_4 rfl 0 rfl (nl rfl) ?_
  refine r_get 11 10 (o := a0) (w := (54, h a0 10)) (T := TX11) (ref := "FollowingRefs") rfl (by decide) rfl (by decide) inlX11 (wsl_2 _ (List.mem_of_getElem? (i := 23) rfl)) rfl dX11_keepForUndo_5 rfl ?_
  refine r_alen (t := 54) (by decide) (by decide) dX11_keepForUndo_8 ?_
  refine r_icmp_lt dX11_keepForUndo_9 (tgt := 16) (by decide) (fun hc => ?_) (fun hc => ?_)
  · have hr := ifp hr hc
    exact oX11_keepForUndo_b16 (K := K) (fun r z => k0 r z) hr hk
  · have hr := ifn hr hc
    refine r_aload_n dX11_keepForUndo_12 rfl 0 rfl (nl rfl) ?_
    obtain ⟨h13, hg13, hr⟩ := bnd hr
    refine k_V (ci := 11) (o := a0) (T := TX11) (as := []) (rest := []) (X := (none, h13)) (oX11_forgetOldest hg13) gX11_forgetOldest rfl (by decide) rfl (wsl_39 _ (List.mem_of_getElem? (i := 21) rfl)) rfl dX11_keepForUndo_13 rfl ?_
    exact oX11_keepForUndo_b16 (K := K) (fun r z => k0 r z) hr hk
end M_X11_keepForUndo
theorem oX11_keepForUndo {l : Launch} {D : va_G} {G : gG} {h : hH} {a0 a1 : Int} {r : hH} (hr : fX11_keepForUndo h a0 a1 = some r) : Ctr l D G true yX11_keepForUndo M_X11_keepForUndo [(21, a0), (18, a1)] h (none, r) :=
  Ctr_of (by decide) rfl (fun z => by cases z) (nl rfl) (fun {p e R s m args below meth c A H0} => by
    exact oX11_keepForUndo_b0 (K := fun z9 => z9 = r) (fun r9 z => by rw [z]) hr rfl)
/-! X11_decide -/
theorem dX11_decide_0 : decode cX11_decide 0 = .ok (.aload_n 0, 1) := by decide +kernel
theorem dX11_decide_1 : decode cX11_decide 1 = .ok (.getfield 58, 3) := by decide +kernel
theorem dX11_decide_4 : decode cX11_decide 4 = .ok (.invokevirtual 141, 3) := by decide +kernel
theorem dX11_decide_7 : decode cX11_decide 7 = .ok (.istore_n 2, 1) := by decide +kernel
theorem dX11_decide_8 : decode cX11_decide 8 = .ok (.aload_n 0, 1) := by decide +kernel
theorem dX11_decide_9 : decode cX11_decide 9 = .ok (.getfield 12, 3) := by decide +kernel
theorem dX11_decide_12 : decode cX11_decide 12 = .ok (.iconst 0, 1) := by decide +kernel
theorem dX11_decide_13 : decode cX11_decide 13 = .ok (.putfield 102, 3) := by decide +kernel
theorem dX11_decide_16 : decode cX11_decide 16 = .ok (.iload_n 2, 1) := by decide +kernel
theorem dX11_decide_17 : decode cX11_decide 17 = .ok (.ifCond .ne 14, 3) := by decide +kernel
theorem dX11_decide_20 : decode cX11_decide 20 = .ok (.bipush (-2), 2) := by decide +kernel
theorem dX11_decide_22 : decode cX11_decide 22 = .ok (.aload_n 0, 1) := by decide +kernel
theorem dX11_decide_23 : decode cX11_decide 23 = .ok (.getfield 12, 3) := by decide +kernel
theorem dX11_decide_26 : decode cX11_decide 26 = .ok (.getfield 114, 3) := by decide +kernel
theorem dX11_decide_29 : decode cX11_decide 29 = .ok (.isub, 1) := by decide +kernel
theorem dX11_decide_30 : decode cX11_decide 30 = .ok (.ireturn, 1) := by decide +kernel
theorem dX11_decide_31 : decode cX11_decide 31 = .ok (.aload_n 0, 1) := by decide +kernel
theorem dX11_decide_32 : decode cX11_decide 32 = .ok (.getfield 67, 3) := by decide +kernel
theorem dX11_decide_35 : decode cX11_decide 35 = .ok (.aload_n 0, 1) := by decide +kernel
theorem dX11_decide_36 : decode cX11_decide 36 = .ok (.getfield 58, 3) := by decide +kernel
theorem dX11_decide_39 : decode cX11_decide 39 = .ok (.iconst 0, 1) := by decide +kernel
theorem dX11_decide_40 : decode cX11_decide 40 = .ok (.invokevirtual 144, 3) := by decide +kernel
theorem dX11_decide_43 : decode cX11_decide 43 = .ok (.istore_n 3, 1) := by decide +kernel
theorem dX11_decide_44 : decode cX11_decide 44 = .ok (.iload_n 3, 1) := by decide +kernel
theorem dX11_decide_45 : decode cX11_decide 45 = .ok (.ifCond .eq 9, 3) := by decide +kernel
theorem dX11_decide_48 : decode cX11_decide 48 = .ok (.sipush (-1000), 3) := by decide +kernel
theorem dX11_decide_51 : decode cX11_decide 51 = .ok (.iload_n 3, 1) := by decide +kernel
theorem dX11_decide_52 : decode cX11_decide 52 = .ok (.isub, 1) := by decide +kernel
theorem dX11_decide_53 : decode cX11_decide 53 = .ok (.ireturn, 1) := by decide +kernel
theorem dX11_decide_54 : decode cX11_decide 54 = .ok (.iload_n 1, 1) := by decide +kernel
theorem dX11_decide_55 : decode cX11_decide 55 = .ok (.ifCond .eq 28, 3) := by decide +kernel
theorem dX11_decide_58 : decode cX11_decide 58 = .ok (.aload_n 0, 1) := by decide +kernel
theorem dX11_decide_59 : decode cX11_decide 59 = .ok (.aload_n 0, 1) := by decide +kernel
theorem dX11_decide_60 : decode cX11_decide 60 = .ok (.getfield 26, 3) := by decide +kernel
theorem dX11_decide_63 : decode cX11_decide 63 = .ok (.invokevirtual 148, 3) := by decide +kernel
theorem dX11_decide_66 : decode cX11_decide 66 = .ok (.aload_n 0, 1) := by decide +kernel
theorem dX11_decide_67 : decode cX11_decide 67 = .ok (.getfield 26, 3) := by decide +kernel
theorem dX11_decide_70 : decode cX11_decide 70 = .ok (.getfield 152, 3) := by decide +kernel
theorem dX11_decide_73 : decode cX11_decide 73 = .ok (.aload_n 0, 1) := by decide +kernel
theorem dX11_decide_74 : decode cX11_decide 74 = .ok (.getfield 67, 3) := by decide +kernel
theorem dX11_decide_77 : decode cX11_decide 77 = .ok (.getfield 156, 3) := by decide +kernel
theorem dX11_decide_80 : decode cX11_decide 80 = .ok (.invokevirtual 159, 3) := by decide +kernel
theorem dX11_decide_83 : decode cX11_decide 83 = .ok (.aload_n 0, 1) := by decide +kernel
theorem dX11_decide_84 : decode cX11_decide 84 = .ok (.getfield 67, 3) := by decide +kernel
theorem dX11_decide_87 : decode cX11_decide 87 = .ok (.getfield 164, 3) := by decide +kernel
theorem dX11_decide_90 : decode cX11_decide 90 = .ok (.ireturn, 1) := by decide +kernel
abbrev M_X11_decide : mM := (cX11_decide, 4, RX11, some .int, false, 8, 185, 0, 0)
theorem gX11_decide : cI yX11_decide M_X11_decide 1 := ⟨(wsl_29 _ (List.mem_of_getElem? (i := 6) rfl)), (wsl_29 _ (List.mem_of_getElem? (i := 7) rfl)), (wsl_1 _ (List.mem_of_getElem? (i := 2) rfl)), (wsl_29 _ (List.mem_of_getElem? (i := 8) rfl)), by decide +kernel⟩
noncomputable def fX11_decide_b83 (h : hH) (a0 : Int) : Option (Int × hH) :=
  some (h (h a0 7) 9, h)
noncomputable def fX11_decide (h : hH) (a0 a1 : Int) : Option (Int × hH) :=
  (fX2_readStatement h (h a0 6)).bind fun q4 =>
  (pput q4.2 (q4.2 a0 0) 1 0).bind fun h13 =>
  if q4.1 = 0 then
    some (w32 ((-2) - (h13 (h13 a0 0) 9)), h13)
  else
    (fX1_judge h13 (h13 a0 7) (h13 a0 6) 0).bind fun q40 =>
    if q40.1 = 0 then
      if a1 = 0 then
        fX11_decide_b83 q40.2 a0
      else
        (fX11_keepForUndo q40.2 a0 (q40.2 a0 2)).bind fun h63 =>
        (fX3_copyFrom h63 (h63 (h63 a0 2) 0) (h63 (h63 a0 7) 2)).bind fun h80 =>
        fX11_decide_b83 h80 a0
    else
      some (w32 ((-1000) - q40.1), q40.2)
section M_X11_decide
variable {p : Program} {l : Launch} {e : Env} {R : Room} {s : State} {m : MethodId} {args : Array Value} {below : List Frame} {meth : Method} {c : Code} {D : va_G} {G : gG} {A : Nat → Prop} {H0 : Heap} {n0 : Int} {x : Option vV × hH} {h : hH}
set_option maxRecDepth 100000 in
set_option maxHeartbeats 4000000 in
theorem oX11_decide_b83 {a0 : Int} {K : Int × hH → Prop} (k0 : ∀ r, K (r) → x = (some (0, r.1), r.2)) {r : Int × hH} (hr : fX11_decide_b83 h a0 = some r) (hk : K r) : Wq p l e R s m args below meth c D G A H0 true n0 M_X11_decide x 0 0 83 [(0, (21, a0))] [] h := by
  unfold fX11_decide_b83 at hr
  refine r_aload_n dX11_decide_83 rfl 0 rfl (nl rfl) ?_
  refine r_get 11 7 (o := a0) (w := (11, h a0 7)) (T := TX11) (ref := "FollowingRefs") rfl (by decide) rfl (by decide) inlX11 (wsl_2 _ (List.mem_of_getElem? (i := 20) rfl)) rfl dX11_decide_84 rfl ?_
  refine r_get 1 9 (o := h a0 7) (w := (0, h (h a0 7) 9)) (T := TX1) (ref := "FollowingRefs$Judge") rfl (by decide) rfl (by decide) inlX1 (wsl_29 _ (List.mem_of_getElem? (i := 11) rfl)) rfl dX11_decide_87 rfl ?_
  obtain rfl := Option.some.inj hr
  exact r_ret dX11_decide_90 rfl (Or.inl ⟨rfl, rfl⟩) (k0 _ hk) ⟨rfl, rfl⟩
set_option maxRecDepth 100000 in
set_option maxHeartbeats 4000000 in
theorem oX11_decide_b0 {a0 a1 : Int} {K : Int × hH → Prop} (k0 : ∀ r, K (r) → x = (some (0, r.1), r.2)) {r : Int × hH} (hr : fX11_decide h a0 a1 = some r) (hk : K r) : Wq p l e R s m args below meth c D G A H0 true n0 M_X11_decide x 0 0 0 [(0, (21, a0)), (1, (2, a1))] [] h := by
  unfold fX11_decide at hr
  refine r_aload_n dX11_decide_0 rfl 0 rfl (nl rfl) ?_
  refine r_get 11 6 (o := a0) (w := (12, h a0 6)) (T := TX11) (ref := "FollowingRefs") rfl (by decide) rfl (by decide) inlX11 (wsl_2 _ (List.mem_of_getElem? (i := 16) rfl)) rfl dX11_decide_1 rfl ?_
  obtain ⟨q4, hg4, hr⟩ := bnd hr
  refine k_V (ci := 2) (o := h a0 6) (T := TX2) (as := []) (rest := []) (X := (some (2, q4.1), q4.2)) (oX2_readStatement hg4) gX2_readStatement rfl (by decide) rfl (wsl_29 _ (List.mem_of_getElem? (i := 12) rfl)) rfl dX11_decide_4 rfl ?_
  refine r_istore_n dX11_decide_7 rfl (Or.inr rfl) (by decide) (lv' := [(2, (2, q4.1)), (0, (21, a0)), (1, (2, a1))]) rfl ?_
  refine r_aload_n dX11_decide_8 rfl 1 rfl (nl rfl) ?_
  refine r_get 11 0 (o := a0) (w := (19, q4.2 a0 0)) (T := TX11) (ref := "FollowingRefs") rfl (by decide) rfl (by decide) inlX11 (wsl_1 _ (List.mem_of_getElem? (i := 16) rfl)) rfl dX11_decide_9 rfl ?_
  refine r_iconst dX11_decide_12 (by decide) ?_
  obtain ⟨h13, hg13, hr⟩ := bnd hr
  refine r_put' 9 1 (t := 0) (ref := "FollowingRefs$Text") hg13 rfl tyX9 tyX9_ok nmX9 rfl (by decide) rfl (by decide) inlX9 (wsl_10 _ (List.mem_of_getElem? (i := 1) rfl)) rfl rfl (by decide +kernel) (by decide) rfl (Or.inl ⟨rfl, rfl⟩) dX11_decide_13 ?_
  refine r_iload_n dX11_decide_16 rfl 0 rfl (Or.inr rfl) ?_
  refine r_scast 0 (v := (2, q4.1)) (w := (0, q4.1)) rfl zc hTz (st' := [(0, q4.1)]) rfl ?_
  refine r_if_ne dX11_decide_17 (tgt := 31) (by decide) (fun hc => ?_) (fun hc => ?_)
  · have hr := ifn hr hc
    refine r_aload_n dX11_decide_31 rfl 1 rfl (nl rfl) ?_
    refine r_get 11 7 (o := a0) (w := (11, h13 a0 7)) (T := TX11) (ref := "FollowingRefs") rfl (by decide) rfl (by decide) inlX11 (wsl_2 _ (List.mem_of_getElem? (i := 20) rfl)) rfl dX11_decide_32 rfl ?_
    refine r_aload_n dX11_decide_35 rfl 1 rfl (nl rfl) ?_
    refine r_get 11 6 (o := a0) (w := (12, h13 a0 6)) (T := TX11) (ref := "FollowingRefs") rfl (by decide) rfl (by decide) inlX11 (wsl_2 _ (List.mem_of_getElem? (i := 16) rfl)) rfl dX11_decide_36 rfl ?_
    refine r_iconst dX11_decide_39 (by decide) ?_
    obtain ⟨q40, hg40, hr⟩ := bnd hr
    refine k_V (ci := 1) (o := h13 a0 7) (T := TX1) (as := [(12, h13 a0 6), (0, 0)]) (rest := []) (X := (some (0, q40.1), q40.2)) (oX1_judge hg40) gX1_judge rfl (by decide) rfl (wsl_31 _ (List.mem_of_getElem? (i := 20) rfl)) rfl dX11_decide_40 rfl ?_
    refine r_istore_n dX11_decide_43 rfl (Or.inl rfl) (by decide) (lv' := [(3, (0, q40.1)), (2, (2, q4.1)), (0, (21, a0)), (1, (2, a1))]) rfl ?_
    refine r_iload_n dX11_decide_44 rfl 0 rfl (Or.inl rfl) ?_
    refine r_if_eq dX11_decide_45 (tgt := 54) (by decide) (fun hc => ?_) (fun hc => ?_)
    · have hr := ifp hr hc
      refine r_iload_n dX11_decide_54 rfl 3 rfl (Or.inr rfl) ?_
      refine r_scast 0 (v := (2, a1)) (w := (0, a1)) rfl zc hTz (st' := [(0, a1)]) rfl ?_
      refine r_if_eq dX11_decide_55 (tgt := 83) (by decide) (fun hc => ?_) (fun hc => ?_)
      · have hr := ifp hr hc
        refine r_sub [2] (lv' := [(0, (21, a0))]) rfl ?_
        exact oX11_decide_b83 (K := K) (fun r z => k0 r z) hr hk
      · have hr := ifn hr hc
        refine r_aload_n dX11_decide_58 rfl 2 rfl (nl rfl) ?_
        refine r_aload_n dX11_decide_59 rfl 2 rfl (nl rfl) ?_
        refine r_get 11 2 (o := a0) (w := (18, q40.2 a0 2)) (T := TX11) (ref := "FollowingRefs") rfl (by decide) rfl (by decide) inlX11 (wsl_2 _ (List.mem_of_getElem? (i := 0) rfl)) rfl dX11_decide_60 rfl ?_
        obtain ⟨h63, hg63, hr⟩ := bnd hr
        refine k_V (ci := 11) (o := a0) (T := TX11) (as := [(18, q40.2 a0 2)]) (rest := []) (X := (none, h63)) (oX11_keepForUndo hg63) gX11_keepForUndo rfl (by decide) rfl (wsl_39 _ (List.mem_of_getElem? (i := 17) rfl)) rfl dX11_decide_63 rfl ?_
        refine r_aload_n dX11_decide_66 rfl 2 rfl (nl rfl) ?_
        refine r_get 11 2 (o := a0) (w := (18, h63 a0 2)) (T := TX11) (ref := "FollowingRefs") rfl (by decide) rfl (by decide) inlX11 (wsl_2 _ (List.mem_of_getElem? (i := 0) rfl)) rfl dX11_decide_67 rfl ?_
        refine r_get 8 0 (o := h63 a0 2) (w := (13, h63 (h63 a0 2) 0)) (T := TX8) (ref := "FollowingRefs$State") rfl (by decide) rfl (by decide) inlX8 (wsl_29 _ (List.mem_of_getElem? (i := 9) rfl)) rfl dX11_decide_70 rfl ?_
        refine r_aload_n dX11_decide_73 rfl 2 rfl (nl rfl) ?_
        refine r_get 11 7 (o := a0) (w := (11, h63 a0 7)) (T := TX11) (ref := "FollowingRefs") rfl (by decide) rfl (by decide) inlX11 (wsl_2 _ (List.mem_of_getElem? (i := 20) rfl)) rfl dX11_decide_74 rfl ?_
        refine r_get 1 2 (o := h63 a0 7) (w := (13, h63 (h63 a0 7) 2)) (T := TX1) (ref := "FollowingRefs$Judge") rfl (by decide) rfl (by decide) inlX1 (wsl_29 _ (List.mem_of_getElem? (i := 10) rfl)) rfl dX11_decide_77 rfl ?_
        obtain ⟨h80, hg80, hr⟩ := bnd hr
        refine k_V (ci := 3) (o := h63 (h63 a0 2) 0) (T := TX3) (as := [(13, h63 (h63 a0 7) 2)]) (rest := []) (X := (none, h80)) (oX3_copyFrom hg80) gX3_copyFrom rfl (by decide) rfl (wsl_40 _ (List.mem_of_getElem? (i := 6) rfl)) rfl dX11_decide_80 rfl ?_
        refine r_sub [2] (lv' := [(0, (21, a0))]) rfl ?_
        exact oX11_decide_b83 (K := K) (fun r z => k0 r z) hr hk
    · have hr := ifn hr hc
      refine r_sipush dX11_decide_48 (by decide) (by decide) ?_
      refine r_iload_n dX11_decide_51 rfl 0 rfl (Or.inl rfl) ?_
      refine r_isub dX11_decide_52 ?_
      obtain rfl := Option.some.inj hr
      exact r_ret dX11_decide_53 rfl (Or.inl ⟨rfl, rfl⟩) (k0 _ hk) ⟨rfl, rfl⟩
  · have hr := ifp hr hc
    refine r_bipush dX11_decide_20 (by decide) (by decide) ?_
    refine r_aload_n dX11_decide_22 rfl 1 rfl (nl rfl) ?_
    refine r_get 11 0 (o := a0) (w := (19, h13 a0 0)) (T := TX11) (ref := "FollowingRefs") rfl (by decide) rfl (by decide) inlX11 (wsl_1 _ (List.mem_of_getElem? (i := 16) rfl)) rfl dX11_decide_23 rfl ?_
    refine r_get 9 9 (o := h13 a0 0) (w := (0, h13 (h13 a0 0) 9)) (T := TX9) (ref := "FollowingRefs$Text") rfl (by decide) rfl (by decide) inlX9 (wsl_11 _ (List.mem_of_getElem? (i := 5) rfl)) rfl dX11_decide_26 rfl ?_
    refine r_isub dX11_decide_29 ?_
    obtain rfl := Option.some.inj hr
    exact r_ret dX11_decide_30 rfl (Or.inl ⟨rfl, rfl⟩) (k0 _ hk) ⟨rfl, rfl⟩
end M_X11_decide
theorem oX11_decide {l : Launch} {D : va_G} {G : gG} {h : hH} {a0 a1 : Int} {r : Int × hH} (hr : fX11_decide h a0 a1 = some r) : Ctr l D G true yX11_decide M_X11_decide [(21, a0), (2, a1)] h (some (0, r.1), r.2) :=
  Ctr_of (by decide) rfl (fun z => by cases z) (nl rfl) (fun {p e R s m args below meth c A H0} => by
    exact oX11_decide_b0 (K := fun z9 => z9 = r) (fun r9 z => by rw [z]) hr rfl)
/-! X11_statement -/
theorem dX11_statement_0 : decode cX11_statement 0 = .ok (.aload_n 0, 1) := by decide +kernel
theorem dX11_statement_1 : decode cX11_statement 1 = .ok (.iconst 1, 1) := by decide +kernel
theorem dX11_statement_2 : decode cX11_statement 2 = .ok (.invokevirtual 137, 3) := by decide +kernel
theorem dX11_statement_5 : decode cX11_statement 5 = .ok (.ireturn, 1) := by decide +kernel
abbrev M_X11_statement : mM := (cX11_statement, 1, RX11, some .int, false, 9, 208, 0, 0)
theorem gX11_statement : cI yX11_statement M_X11_statement 0 := ⟨(wsl_29 _ (List.mem_of_getElem? (i := 2) rfl)), (wsl_29 _ (List.mem_of_getElem? (i := 3) rfl)), (wsl_1 _ (List.mem_of_getElem? (i := 2) rfl)), (wsl_29 _ (List.mem_of_getElem? (i := 4) rfl)), by decide +kernel⟩
noncomputable def fX11_statement (h : hH) (a0 : Int) : Option (Int × hH) :=
  (fX11_decide h a0 1).bind fun q2 =>
  some (q2.1, q2.2)
section M_X11_statement
variable {p : Program} {l : Launch} {e : Env} {R : Room} {s : State} {m : MethodId} {args : Array Value} {below : List Frame} {meth : Method} {c : Code} {D : va_G} {G : gG} {A : Nat → Prop} {H0 : Heap} {n0 : Int} {x : Option vV × hH} {h : hH}
set_option maxRecDepth 100000 in
set_option maxHeartbeats 4000000 in
theorem oX11_statement_b0 {a0 : Int} {K : Int × hH → Prop} (k0 : ∀ r, K (r) → x = (some (0, r.1), r.2)) {r : Int × hH} (hr : fX11_statement h a0 = some r) (hk : K r) : Wq p l e R s m args below meth c D G A H0 true n0 M_X11_statement x 0 0 0 [(0, (21, a0))] [] h := by
  unfold fX11_statement at hr
  refine r_aload_n dX11_statement_0 rfl 0 rfl (nl rfl) ?_
  refine r_iconst dX11_statement_1 (by decide) ?_
  refine r_scast 0 (v := (0, 1)) (w := (2, 1)) rfl cz (fun _ => Or.inr rfl) (st' := [(2, 1), (21, a0)]) rfl ?_
  obtain ⟨q2, hg2, hr⟩ := bnd hr
  refine k_V (ci := 11) (o := a0) (T := TX11) (as := [(2, 1)]) (rest := []) (X := (some (0, q2.1), q2.2)) (oX11_decide hg2) gX11_decide rfl (by decide) rfl (wsl_29 _ (List.mem_of_getElem? (i := 5) rfl)) rfl dX11_statement_2 rfl ?_
  obtain rfl := Option.some.inj hr
  exact r_ret dX11_statement_5 rfl (Or.inl ⟨rfl, rfl⟩) (k0 _ hk) ⟨rfl, rfl⟩
end M_X11_statement
theorem oX11_statement {l : Launch} {D : va_G} {G : gG} {h : hH} {a0 : Int} {r : Int × hH} (hr : fX11_statement h a0 = some r) : Ctr l D G true yX11_statement M_X11_statement [(21, a0)] h (some (0, r.1), r.2) :=
  Ctr_of (by decide) rfl (fun z => by cases z) (nl rfl) (fun {p e R s m args below meth c A H0} => by
    exact oX11_statement_b0 (K := fun z9 => z9 = r) (fun r9 z => by rw [z]) hr rfl)
/-! X11_would -/
theorem dX11_would_0 : decode cX11_would 0 = .ok (.aload_n 0, 1) := by decide +kernel
theorem dX11_would_1 : decode cX11_would 1 = .ok (.iconst 0, 1) := by decide +kernel
theorem dX11_would_2 : decode cX11_would 2 = .ok (.invokevirtual 137, 3) := by decide +kernel
theorem dX11_would_5 : decode cX11_would 5 = .ok (.ireturn, 1) := by decide +kernel
abbrev M_X11_would : mM := (cX11_would, 1, RX11, some .int, false, 9, 208, 0, 0)
theorem gX11_would : cI yX11_would M_X11_would 0 := ⟨(wsl_47 _ (List.mem_of_getElem? (i := 3) rfl)), (wsl_47 _ (List.mem_of_getElem? (i := 4) rfl)), (wsl_1 _ (List.mem_of_getElem? (i := 2) rfl)), (wsl_47 _ (List.mem_of_getElem? (i := 5) rfl)), by decide +kernel⟩
noncomputable def fX11_would (h : hH) (a0 : Int) : Option (Int × hH) :=
  (fX11_decide h a0 0).bind fun q2 =>
  some (q2.1, q2.2)
section M_X11_would
variable {p : Program} {l : Launch} {e : Env} {R : Room} {s : State} {m : MethodId} {args : Array Value} {below : List Frame} {meth : Method} {c : Code} {D : va_G} {G : gG} {A : Nat → Prop} {H0 : Heap} {n0 : Int} {x : Option vV × hH} {h : hH}
set_option maxRecDepth 100000 in
set_option maxHeartbeats 4000000 in
theorem oX11_would_b0 {a0 : Int} {K : Int × hH → Prop} (k0 : ∀ r, K (r) → x = (some (0, r.1), r.2)) {r : Int × hH} (hr : fX11_would h a0 = some r) (hk : K r) : Wq p l e R s m args below meth c D G A H0 true n0 M_X11_would x 0 0 0 [(0, (21, a0))] [] h := by
  unfold fX11_would at hr
  refine r_aload_n dX11_would_0 rfl 0 rfl (nl rfl) ?_
  refine r_iconst dX11_would_1 (by decide) ?_
  refine r_scast 0 (v := (0, 0)) (w := (2, 0)) rfl cz (fun _ => Or.inl rfl) (st' := [(2, 0), (21, a0)]) rfl ?_
  obtain ⟨q2, hg2, hr⟩ := bnd hr
  refine k_V (ci := 11) (o := a0) (T := TX11) (as := [(2, 0)]) (rest := []) (X := (some (0, q2.1), q2.2)) (oX11_decide hg2) gX11_decide rfl (by decide) rfl (wsl_29 _ (List.mem_of_getElem? (i := 5) rfl)) rfl dX11_would_2 rfl ?_
  obtain rfl := Option.some.inj hr
  exact r_ret dX11_would_5 rfl (Or.inl ⟨rfl, rfl⟩) (k0 _ hk) ⟨rfl, rfl⟩
end M_X11_would
theorem oX11_would {l : Launch} {D : va_G} {G : gG} {h : hH} {a0 : Int} {r : Int × hH} (hr : fX11_would h a0 = some r) : Ctr l D G true yX11_would M_X11_would [(21, a0)] h (some (0, r.1), r.2) :=
  Ctr_of (by decide) rfl (fun z => by cases z) (nl rfl) (fun {p e R s m args below meth c A H0} => by
    exact oX11_would_b0 (K := fun z9 => z9 = r) (fun r9 z => by rw [z]) hr rfl)
/-! X11_judged -/
theorem dX11_judged_0 : decode cX11_judged 0 = .ok (.aload_n 0, 1) := by decide +kernel
theorem dX11_judged_1 : decode cX11_judged 1 = .ok (.getfield 67, 3) := by decide +kernel
theorem dX11_judged_4 : decode cX11_judged 4 = .ok (.getfield 167, 3) := by decide +kernel
theorem dX11_judged_7 : decode cX11_judged 7 = .ok (.ifCond .ne 5, 3) := by decide +kernel
theorem dX11_judged_10 : decode cX11_judged 10 = .ok (.iconst (-1), 1) := by decide +kernel
theorem dX11_judged_11 : decode cX11_judged 11 = .ok (.ireturn, 1) := by decide +kernel
theorem dX11_judged_12 : decode cX11_judged 12 = .ok (.iload_n 1, 1) := by decide +kernel
theorem dX11_judged_13 : decode cX11_judged 13 = .ok (.tableswitch 63 0 3 #[31, 39, 47, 55], 31) := by decide +kernel
theorem dX11_judged_44 : decode cX11_judged 44 = .ok (.aload_n 0, 1) := by decide +kernel
theorem dX11_judged_45 : decode cX11_judged 45 = .ok (.getfield 67, 3) := by decide +kernel
theorem dX11_judged_48 : decode cX11_judged 48 = .ok (.getfield 171, 3) := by decide +kernel
theorem dX11_judged_51 : decode cX11_judged 51 = .ok (.ireturn, 1) := by decide +kernel
theorem dX11_judged_52 : decode cX11_judged 52 = .ok (.aload_n 0, 1) := by decide +kernel
theorem dX11_judged_53 : decode cX11_judged 53 = .ok (.getfield 67, 3) := by decide +kernel
theorem dX11_judged_56 : decode cX11_judged 56 = .ok (.getfield 174, 3) := by decide +kernel
theorem dX11_judged_59 : decode cX11_judged 59 = .ok (.ireturn, 1) := by decide +kernel
theorem dX11_judged_60 : decode cX11_judged 60 = .ok (.aload_n 0, 1) := by decide +kernel
theorem dX11_judged_61 : decode cX11_judged 61 = .ok (.getfield 67, 3) := by decide +kernel
theorem dX11_judged_64 : decode cX11_judged 64 = .ok (.getfield 177, 3) := by decide +kernel
theorem dX11_judged_67 : decode cX11_judged 67 = .ok (.ireturn, 1) := by decide +kernel
theorem dX11_judged_68 : decode cX11_judged 68 = .ok (.aload_n 0, 1) := by decide +kernel
theorem dX11_judged_69 : decode cX11_judged 69 = .ok (.getfield 67, 3) := by decide +kernel
theorem dX11_judged_72 : decode cX11_judged 72 = .ok (.getfield 180, 3) := by decide +kernel
theorem dX11_judged_75 : decode cX11_judged 75 = .ok (.ireturn, 1) := by decide +kernel
theorem dX11_judged_76 : decode cX11_judged 76 = .ok (.iconst (-1), 1) := by decide +kernel
theorem dX11_judged_77 : decode cX11_judged 77 = .ok (.ireturn, 1) := by decide +kernel
abbrev M_X11_judged : mM := (cX11_judged, 2, RX11, some .int, false, 0, 0, 0, 0)
theorem gX11_judged : cI yX11_judged M_X11_judged 1 := ⟨(wsl_47 _ (List.mem_of_getElem? (i := 11) rfl)), (wsl_47 _ (List.mem_of_getElem? (i := 12) rfl)), (wsl_1 _ (List.mem_of_getElem? (i := 2) rfl)), (wsl_47 _ (List.mem_of_getElem? (i := 13) rfl)), by decide +kernel⟩
noncomputable def fX11_judged (h : hH) (a0 a1 : Int) : Option (Int) :=
  if h (h a0 7) 4 = 0 then
    some (-1)
  else
    if a1 = 0 then
      some (h (h a0 7) 5)
    else
      if a1 = 1 then
        some (h (h a0 7) 6)
      else
        if a1 = 2 then
          some (h (h a0 7) 7)
        else
          if a1 = 3 then
            some (h (h a0 7) 8)
          else
            some (-1)
section M_X11_judged
variable {p : Program} {l : Launch} {e : Env} {R : Room} {s : State} {m : MethodId} {args : Array Value} {below : List Frame} {meth : Method} {c : Code} {D : va_G} {G : gG} {A : Nat → Prop} {H0 : Heap} {n0 : Int} {x : Option vV × hH} {h : hH}
set_option maxRecDepth 100000 in
set_option maxHeartbeats 4000000 in
theorem oX11_judged_b0 {a0 a1 : Int} {K : Int → Prop} (k0 : ∀ r, K (r) → x = (some (0, r), h)) {r : Int} (hr : fX11_judged h a0 a1 = some r) (hk : K r) : Wq p l e R s m args below meth c D G A H0 true n0 M_X11_judged x 0 0 0 [(0, (21, a0)), (1, (0, a1))] [] h := by
  unfold fX11_judged at hr
  refine r_aload_n dX11_judged_0 rfl 0 rfl (nl rfl) ?_
  refine r_get 11 7 (o := a0) (w := (11, h a0 7)) (T := TX11) (ref := "FollowingRefs") rfl (by decide) rfl (by decide) inlX11 (wsl_2 _ (List.mem_of_getElem? (i := 20) rfl)) rfl dX11_judged_1 rfl ?_
  refine r_get 1 4 (o := h a0 7) (w := (2, h (h a0 7) 4)) (T := TX1) (ref := "FollowingRefs$Judge") rfl (by decide) rfl (by decide) inlX1 (wsl_47 _ (List.mem_of_getElem? (i := 14) rfl)) rfl dX11_judged_4 rfl ?_
  refine r_scast 0 (v := (2, h (h a0 7) 4)) (w := (0, h (h a0 7) 4)) rfl zc hTz (st' := [(0, h (h a0 7) 4)]) rfl ?_
  refine r_if_ne dX11_judged_7 (tgt := 12) (by decide) (fun hc => ?_) (fun hc => ?_)
  · have hr := ifn hr hc
    refine r_iload_n dX11_judged_12 rfl 1 rfl (Or.inl rfl) ?_
    by_cases hs0 : a1 = 0
    · have hr := ifp hr hs0
      refine r_tableIn dX11_judged_13 (by omega) (by omega) (off := 31) (by rw [hs0]; rfl) (tgt := 44) (by decide) ?_
      refine r_aload_n dX11_judged_44 rfl 0 rfl (nl rfl) ?_
      refine r_get 11 7 (o := a0) (w := (11, h a0 7)) (T := TX11) (ref := "FollowingRefs") rfl (by decide) rfl (by decide) inlX11 (wsl_2 _ (List.mem_of_getElem? (i := 20) rfl)) rfl dX11_judged_45 rfl ?_
      refine r_get 1 5 (o := h a0 7) (w := (0, h (h a0 7) 5)) (T := TX1) (ref := "FollowingRefs$Judge") rfl (by decide) rfl (by decide) inlX1 (wsl_47 _ (List.mem_of_getElem? (i := 15) rfl)) rfl dX11_judged_48 rfl ?_
      obtain rfl := Option.some.inj hr
      exact r_ret dX11_judged_51 rfl (Or.inl ⟨rfl, rfl⟩) (k0 _ hk) ⟨rfl, rfl⟩
    have hr := ifn hr hs0
    by_cases hs1 : a1 = 1
    · have hr := ifp hr hs1
      refine r_tableIn dX11_judged_13 (by omega) (by omega) (off := 39) (by rw [hs1]; rfl) (tgt := 52) (by decide) ?_
      refine r_aload_n dX11_judged_52 rfl 0 rfl (nl rfl) ?_
      refine r_get 11 7 (o := a0) (w := (11, h a0 7)) (T := TX11) (ref := "FollowingRefs") rfl (by decide) rfl (by decide) inlX11 (wsl_2 _ (List.mem_of_getElem? (i := 20) rfl)) rfl dX11_judged_53 rfl ?_
      refine r_get 1 6 (o := h a0 7) (w := (0, h (h a0 7) 6)) (T := TX1) (ref := "FollowingRefs$Judge") rfl (by decide) rfl (by decide) inlX1 (wsl_47 _ (List.mem_of_getElem? (i := 16) rfl)) rfl dX11_judged_56 rfl ?_
      obtain rfl := Option.some.inj hr
      exact r_ret dX11_judged_59 rfl (Or.inl ⟨rfl, rfl⟩) (k0 _ hk) ⟨rfl, rfl⟩
    have hr := ifn hr hs1
    by_cases hs2 : a1 = 2
    · have hr := ifp hr hs2
      refine r_tableIn dX11_judged_13 (by omega) (by omega) (off := 47) (by rw [hs2]; rfl) (tgt := 60) (by decide) ?_
      refine r_aload_n dX11_judged_60 rfl 0 rfl (nl rfl) ?_
      refine r_get 11 7 (o := a0) (w := (11, h a0 7)) (T := TX11) (ref := "FollowingRefs") rfl (by decide) rfl (by decide) inlX11 (wsl_2 _ (List.mem_of_getElem? (i := 20) rfl)) rfl dX11_judged_61 rfl ?_
      refine r_get 1 7 (o := h a0 7) (w := (0, h (h a0 7) 7)) (T := TX1) (ref := "FollowingRefs$Judge") rfl (by decide) rfl (by decide) inlX1 (wsl_47 _ (List.mem_of_getElem? (i := 17) rfl)) rfl dX11_judged_64 rfl ?_
      obtain rfl := Option.some.inj hr
      exact r_ret dX11_judged_67 rfl (Or.inl ⟨rfl, rfl⟩) (k0 _ hk) ⟨rfl, rfl⟩
    have hr := ifn hr hs2
    by_cases hs3 : a1 = 3
    · have hr := ifp hr hs3
      refine r_tableIn dX11_judged_13 (by omega) (by omega) (off := 55) (by rw [hs3]; rfl) (tgt := 68) (by decide) ?_
      refine r_aload_n dX11_judged_68 rfl 0 rfl (nl rfl) ?_
      refine r_get 11 7 (o := a0) (w := (11, h a0 7)) (T := TX11) (ref := "FollowingRefs") rfl (by decide) rfl (by decide) inlX11 (wsl_2 _ (List.mem_of_getElem? (i := 20) rfl)) rfl dX11_judged_69 rfl ?_
      refine r_get 1 8 (o := h a0 7) (w := (0, h (h a0 7) 8)) (T := TX1) (ref := "FollowingRefs$Judge") rfl (by decide) rfl (by decide) inlX1 (wsl_47 _ (List.mem_of_getElem? (i := 18) rfl)) rfl dX11_judged_72 rfl ?_
      obtain rfl := Option.some.inj hr
      exact r_ret dX11_judged_75 rfl (Or.inl ⟨rfl, rfl⟩) (k0 _ hk) ⟨rfl, rfl⟩
    have hr := ifn hr hs3
    refine r_tableOut dX11_judged_13 (by omega) (tgt := 76) (by decide) ?_
    refine r_iconst dX11_judged_76 (by decide) ?_
    obtain rfl := Option.some.inj hr
    exact r_ret dX11_judged_77 rfl (Or.inl ⟨rfl, rfl⟩) (k0 _ hk) ⟨rfl, rfl⟩
  · have hr := ifp hr hc
    refine r_iconst dX11_judged_10 (by decide) ?_
    obtain rfl := Option.some.inj hr
    exact r_ret dX11_judged_11 rfl (Or.inl ⟨rfl, rfl⟩) (k0 _ hk) ⟨rfl, rfl⟩
end M_X11_judged
theorem oX11_judged {l : Launch} {D : va_G} {G : gG} {h : hH} {a0 a1 : Int} {r : Int} (hr : fX11_judged h a0 a1 = some r) : Ctr l D G true yX11_judged M_X11_judged [(21, a0), (0, a1)] h (some (0, r), h) :=
  Ctr_of (by decide) rfl (fun z => by cases z) (nl rfl) (fun {p e R s m args below meth c A H0} => by
    exact oX11_judged_b0 (K := fun z9 => z9 = r) (fun r9 z => by rw [z]) hr rfl)
/-! X11_goes -/
theorem dX11_goes_0 : decode cX11_goes 0 = .ok (.iload_n 1, 1) := by decide +kernel
theorem dX11_goes_1 : decode cX11_goes 1 = .ok (.ifCond .lt 28, 3) := by decide +kernel
theorem dX11_goes_4 : decode cX11_goes 4 = .ok (.iload_n 1, 1) := by decide +kernel
theorem dX11_goes_5 : decode cX11_goes 5 = .ok (.aload_n 0, 1) := by decide +kernel
theorem dX11_goes_6 : decode cX11_goes 6 = .ok (.getfield 67, 3) := by decide +kernel
theorem dX11_goes_9 : decode cX11_goes 9 = .ok (.getfield 177, 3) := by decide +kernel
theorem dX11_goes_12 : decode cX11_goes 12 = .ok (.if_icmp .ge 17, 3) := by decide +kernel
theorem dX11_goes_15 : decode cX11_goes 15 = .ok (.aload_n 0, 1) := by decide +kernel
theorem dX11_goes_16 : decode cX11_goes 16 = .ok (.getfield 67, 3) := by decide +kernel
theorem dX11_goes_19 : decode cX11_goes 19 = .ok (.getfield 183, 3) := by decide +kernel
theorem dX11_goes_22 : decode cX11_goes 22 = .ok (.iload_n 1, 1) := by decide +kernel
theorem dX11_goes_23 : decode cX11_goes 23 = .ok (.invokestatic 186, 3) := by decide +kernel
theorem dX11_goes_26 : decode cX11_goes 26 = .ok (.goto 4, 3) := by decide +kernel
theorem dX11_goes_29 : decode cX11_goes 29 = .ok (.iconst (-1), 1) := by decide +kernel
theorem dX11_goes_30 : decode cX11_goes 30 = .ok (.ireturn, 1) := by decide +kernel
abbrev M_X11_goes : mM := (cX11_goes, 2, RX11, some .int, false, 1, 21, 0, 0)
theorem gX11_goes : cI yX11_goes M_X11_goes 1 := ⟨(wsl_48 _ (List.mem_of_getElem? (i := 0) rfl)), (wsl_48 _ (List.mem_of_getElem? (i := 1) rfl)), (wsl_1 _ (List.mem_of_getElem? (i := 2) rfl)), (wsl_48 _ (List.mem_of_getElem? (i := 2) rfl)), by decide +kernel⟩
noncomputable def fX11_goes (h : hH) (a0 a1 : Int) : Option (Int) :=
  if a1 < 0 then
    some (-1)
  else
    if a1 < h (h a0 7) 7 then
      (fX11_at h (h (h a0 7) 11) a1).bind fun r23 =>
      some r23
    else
      some (-1)
section M_X11_goes
variable {p : Program} {l : Launch} {e : Env} {R : Room} {s : State} {m : MethodId} {args : Array Value} {below : List Frame} {meth : Method} {c : Code} {D : va_G} {G : gG} {A : Nat → Prop} {H0 : Heap} {n0 : Int} {x : Option vV × hH} {h : hH}
set_option maxRecDepth 100000 in
set_option maxHeartbeats 4000000 in
theorem oX11_goes_b0 {a0 a1 : Int} {K : Int → Prop} (k0 : ∀ r, K (r) → x = (some (0, r), h)) {r : Int} (hr : fX11_goes h a0 a1 = some r) (hk : K r) : Wq p l e R s m args below meth c D G A H0 true n0 M_X11_goes x 0 0 0 [(0, (21, a0)), (1, (0, a1))] [] h := by
  unfold fX11_goes at hr
  refine r_iload_n dX11_goes_0 rfl 1 rfl (Or.inl rfl) ?_
  refine r_if_lt dX11_goes_1 (tgt := 29) (by decide) (fun hc => ?_) (fun hc => ?_)
  · have hr := ifp hr hc
    refine r_iconst dX11_goes_29 (by decide) ?_
    obtain rfl := Option.some.inj hr
    exact r_ret dX11_goes_30 rfl (Or.inl ⟨rfl, rfl⟩) (k0 _ hk) ⟨rfl, rfl⟩
  · have hr := ifn hr hc
    refine r_iload_n dX11_goes_4 rfl 1 rfl (Or.inl rfl) ?_
    refine r_aload_n dX11_goes_5 rfl 0 rfl (nl rfl) ?_
    refine r_get 11 7 (o := a0) (w := (11, h a0 7)) (T := TX11) (ref := "FollowingRefs") rfl (by decide) rfl (by decide) inlX11 (wsl_2 _ (List.mem_of_getElem? (i := 20) rfl)) rfl dX11_goes_6 rfl ?_
    refine r_get 1 7 (o := h a0 7) (w := (0, h (h a0 7) 7)) (T := TX1) (ref := "FollowingRefs$Judge") rfl (by decide) rfl (by decide) inlX1 (wsl_47 _ (List.mem_of_getElem? (i := 17) rfl)) rfl dX11_goes_9 rfl ?_
    refine r_icmp_ge dX11_goes_12 (tgt := 29) (by decide) (fun hc => ?_) (fun hc => ?_)
    · have hr := ifn hr hc
      refine r_iconst dX11_goes_29 (by decide) ?_
      obtain rfl := Option.some.inj hr
      exact r_ret dX11_goes_30 rfl (Or.inl ⟨rfl, rfl⟩) (k0 _ hk) ⟨rfl, rfl⟩
    · have hr := ifp hr hc
      refine r_aload_n dX11_goes_15 rfl 0 rfl (nl rfl) ?_
      refine r_get 11 7 (o := a0) (w := (11, h a0 7)) (T := TX11) (ref := "FollowingRefs") rfl (by decide) rfl (by decide) inlX11 (wsl_2 _ (List.mem_of_getElem? (i := 20) rfl)) rfl dX11_goes_16 rfl ?_
      refine r_get 1 11 (o := h a0 7) (w := (50, h (h a0 7) 11)) (T := TX1) (ref := "FollowingRefs$Judge") rfl (by decide) rfl (by decide) inlX1 (wsl_48 _ (List.mem_of_getElem? (i := 3) rfl)) rfl dX11_goes_19 rfl ?_
      refine r_iload_n dX11_goes_22 rfl 1 rfl (Or.inl rfl) ?_
      obtain ⟨r23, hg23, hr⟩ := bnd hr
      refine k_S (as := [(50, h (h a0 7) 11), (0, a1)]) (rest := []) (X := (some (0, r23), h)) (oX11_at hg23) gX11_at rfl (wsl_48 _ (List.mem_of_getElem? (i := 4) rfl)) rfl dX11_goes_23 rfl ?_
      refine r_goto dX11_goes_26 (tgt := 30) (by decide) ?_
      obtain rfl := Option.some.inj hr
      exact r_ret dX11_goes_30 rfl (Or.inl ⟨rfl, rfl⟩) (k0 _ hk) ⟨rfl, rfl⟩
end M_X11_goes
theorem oX11_goes {l : Launch} {D : va_G} {G : gG} {h : hH} {a0 a1 : Int} {r : Int} (hr : fX11_goes h a0 a1 = some r) : Ctr l D G true yX11_goes M_X11_goes [(21, a0), (0, a1)] h (some (0, r), h) :=
  Ctr_of (by decide) rfl (fun z => by cases z) (nl rfl) (fun {p e R s m args below meth c A H0} => by
    exact oX11_goes_b0 (K := fun z9 => z9 = r) (fun r9 z => by rw [z]) hr rfl)
/-! X11_steps -/
theorem dX11_steps_0 : decode cX11_steps 0 = .ok (.iconst 0, 1) := by decide +kernel
theorem dX11_steps_1 : decode cX11_steps 1 = .ok (.istore_n 2, 1) := by decide +kernel
theorem dX11_steps_2 : decode cX11_steps 2 = .ok (.iload_n 2, 1) := by decide +kernel
theorem dX11_steps_3 : decode cX11_steps 3 = .ok (.aload_n 0, 1) := by decide +kernel
theorem dX11_steps_4 : decode cX11_steps 4 = .ok (.getfield 67, 3) := by decide +kernel
theorem dX11_steps_7 : decode cX11_steps 7 = .ok (.getfield 177, 3) := by decide +kernel
theorem dX11_steps_10 : decode cX11_steps 10 = .ok (.if_icmp .ge 36, 3) := by decide +kernel
theorem dX11_steps_13 : decode cX11_steps 13 = .ok (.aload_n 0, 1) := by decide +kernel
theorem dX11_steps_14 : decode cX11_steps 14 = .ok (.getfield 67, 3) := by decide +kernel
theorem dX11_steps_17 : decode cX11_steps 17 = .ok (.getfield 183, 3) := by decide +kernel
theorem dX11_steps_20 : decode cX11_steps 20 = .ok (.iload_n 2, 1) := by decide +kernel
theorem dX11_steps_21 : decode cX11_steps 21 = .ok (.invokestatic 186, 3) := by decide +kernel
theorem dX11_steps_24 : decode cX11_steps 24 = .ok (.iload_n 1, 1) := by decide +kernel
theorem dX11_steps_25 : decode cX11_steps 25 = .ok (.if_icmp .ne 15, 3) := by decide +kernel
theorem dX11_steps_28 : decode cX11_steps 28 = .ok (.aload_n 0, 1) := by decide +kernel
theorem dX11_steps_29 : decode cX11_steps 29 = .ok (.getfield 67, 3) := by decide +kernel
theorem dX11_steps_32 : decode cX11_steps 32 = .ok (.getfield 190, 3) := by decide +kernel
theorem dX11_steps_35 : decode cX11_steps 35 = .ok (.iload_n 2, 1) := by decide +kernel
theorem dX11_steps_36 : decode cX11_steps 36 = .ok (.invokestatic 186, 3) := by decide +kernel
theorem dX11_steps_39 : decode cX11_steps 39 = .ok (.ireturn, 1) := by decide +kernel
theorem dX11_steps_40 : decode cX11_steps 40 = .ok (.iinc 2 1, 3) := by decide +kernel
theorem dX11_steps_43 : decode cX11_steps 43 = .ok (.goto (-41), 3) := by decide +kernel
theorem dX11_steps_46 : decode cX11_steps 46 = .ok (.iconst (-1), 1) := by decide +kernel
theorem dX11_steps_47 : decode cX11_steps 47 = .ok (.ireturn, 1) := by decide +kernel
abbrev M_X11_steps : mM := (cX11_steps, 3, RX11, some .int, false, 1, 21, 0, 0)
theorem gX11_steps : cI yX11_steps M_X11_steps 1 := ⟨(wsl_48 _ (List.mem_of_getElem? (i := 10) rfl)), (wsl_48 _ (List.mem_of_getElem? (i := 11) rfl)), (wsl_1 _ (List.mem_of_getElem? (i := 2) rfl)), (wsl_48 _ (List.mem_of_getElem? (i := 12) rfl)), by decide +kernel⟩
noncomputable def fX11_steps_s2 (h : hH) (a0 a1 : Int) : Int → Option ((Int) ⊕ (Int)) := fun l2 =>
  if l2 < h (h a0 7) 7 then
    (fX11_at h (h (h a0 7) 11) l2).bind fun r21 =>
    if r21 = a1 then
      (fX11_at h (h (h a0 7) 12) l2).bind fun r36 =>
      some (.inr (r36))
    else
      some (.inl (w32 (l2 + 1)))
  else
    some (.inr (-1))
noncomputable def fX11_steps (h : hH) (a0 a1 : Int) : Option (Int) :=
  lpO (fX11_steps_s2 h a0 a1) 0
section M_X11_steps
variable {p : Program} {l : Launch} {e : Env} {R : Room} {s : State} {m : MethodId} {args : Array Value} {below : List Frame} {meth : Method} {c : Code} {D : va_G} {G : gG} {A : Nat → Prop} {H0 : Heap} {n0 : Int} {x : Option vV × hH} {h : hH}
set_option maxRecDepth 100000 in
set_option maxHeartbeats 4000000 in
theorem oX11_steps_s2 {a0 a1 l2 : Int} {K : (Int) ⊕ (Int) → Prop} (k0 : ∀ r, K (.inr (r)) → x = (some (0, r), h)) (k1 : ∀ (l2 : Int), K (.inl l2) → Wq p l e R s m args below meth c D G A H0 true n0 M_X11_steps x 0 0 2 [(0, (21, a0)), (1, (0, a1)), (2, (0, l2))] [] h) {r : (Int) ⊕ (Int)} (hr : fX11_steps_s2 h a0 a1 l2 = some r) (hk : K r) : Wq p l e R s m args below meth c D G A H0 true n0 M_X11_steps x 0 0 2 [(0, (21, a0)), (1, (0, a1)), (2, (0, l2))] [] h := by
  unfold fX11_steps_s2 at hr
  refine r_iload_n dX11_steps_2 rfl 2 rfl (Or.inl rfl) ?_
  refine r_aload_n dX11_steps_3 rfl 0 rfl (nl rfl) ?_
  refine r_get 11 7 (o := a0) (w := (11, h a0 7)) (T := TX11) (ref := "FollowingRefs") rfl (by decide) rfl (by decide) inlX11 (wsl_2 _ (List.mem_of_getElem? (i := 20) rfl)) rfl dX11_steps_4 rfl ?_
  refine r_get 1 7 (o := h a0 7) (w := (0, h (h a0 7) 7)) (T := TX1) (ref := "FollowingRefs$Judge") rfl (by decide) rfl (by decide) inlX1 (wsl_47 _ (List.mem_of_getElem? (i := 17) rfl)) rfl dX11_steps_7 rfl ?_
  refine r_icmp_ge dX11_steps_10 (tgt := 46) (by decide) (fun hc => ?_) (fun hc => ?_)
  · have hr := ifn hr hc
    refine r_iconst dX11_steps_46 (by decide) ?_
    obtain rfl := Option.some.inj hr
    exact r_ret dX11_steps_47 rfl (Or.inl ⟨rfl, rfl⟩) (k0 _ hk) ⟨rfl, rfl⟩
  · have hr := ifp hr hc
    refine r_aload_n dX11_steps_13 rfl 0 rfl (nl rfl) ?_
    refine r_get 11 7 (o := a0) (w := (11, h a0 7)) (T := TX11) (ref := "FollowingRefs") rfl (by decide) rfl (by decide) inlX11 (wsl_2 _ (List.mem_of_getElem? (i := 20) rfl)) rfl dX11_steps_14 rfl ?_
    refine r_get 1 11 (o := h a0 7) (w := (50, h (h a0 7) 11)) (T := TX1) (ref := "FollowingRefs$Judge") rfl (by decide) rfl (by decide) inlX1 (wsl_48 _ (List.mem_of_getElem? (i := 3) rfl)) rfl dX11_steps_17 rfl ?_
    refine r_iload_n dX11_steps_20 rfl 2 rfl (Or.inl rfl) ?_
    obtain ⟨r21, hg21, hr⟩ := bnd hr
    refine k_S (as := [(50, h (h a0 7) 11), (0, l2)]) (rest := []) (X := (some (0, r21), h)) (oX11_at hg21) gX11_at rfl (wsl_48 _ (List.mem_of_getElem? (i := 4) rfl)) rfl dX11_steps_21 rfl ?_
    refine r_iload_n dX11_steps_24 rfl 1 rfl (Or.inl rfl) ?_
    refine r_icmp_ne dX11_steps_25 (tgt := 40) (by decide) (fun hc => ?_) (fun hc => ?_)
    · have hr := ifn hr hc
      refine r_iinc (k := 2) (v := l2) dX11_steps_40 rfl (by decide) (lv' := [(2, (0, w32 (l2 + 1))), (0, (21, a0)), (1, (0, a1))]) rfl ?_
      refine r_goto dX11_steps_43 (tgt := 2) (by decide) ?_
      refine r_sub [1, 2, 0] (lv' := [(0, (21, a0)), (1, (0, a1)), (2, (0, w32 (l2 + 1)))]) rfl ?_
      obtain rfl := Option.some.inj hr
      exact k1 _ hk
    · have hr := ifp hr hc
      refine r_aload_n dX11_steps_28 rfl 0 rfl (nl rfl) ?_
      refine r_get 11 7 (o := a0) (w := (11, h a0 7)) (T := TX11) (ref := "FollowingRefs") rfl (by decide) rfl (by decide) inlX11 (wsl_2 _ (List.mem_of_getElem? (i := 20) rfl)) rfl dX11_steps_29 rfl ?_
      refine r_get 1 12 (o := h a0 7) (w := (50, h (h a0 7) 12)) (T := TX1) (ref := "FollowingRefs$Judge") rfl (by decide) rfl (by decide) inlX1 (wsl_48 _ (List.mem_of_getElem? (i := 13) rfl)) rfl dX11_steps_32 rfl ?_
      refine r_iload_n dX11_steps_35 rfl 2 rfl (Or.inl rfl) ?_
      obtain ⟨r36, hg36, hr⟩ := bnd hr
      refine k_S (as := [(50, h (h a0 7) 12), (0, l2)]) (rest := []) (X := (some (0, r36), h)) (oX11_at hg36) gX11_at rfl (wsl_48 _ (List.mem_of_getElem? (i := 4) rfl)) rfl dX11_steps_36 rfl ?_
      obtain rfl := Option.some.inj hr
      exact r_ret dX11_steps_39 rfl (Or.inl ⟨rfl, rfl⟩) (k0 _ hk) ⟨rfl, rfl⟩
set_option maxRecDepth 100000 in
set_option maxHeartbeats 4000000 in
theorem oX11_steps_b0 {a0 a1 : Int} {K : Int → Prop} (k0 : ∀ r, K (r) → x = (some (0, r), h)) {r : Int} (hr : fX11_steps h a0 a1 = some r) (hk : K r) : Wq p l e R s m args below meth c D G A H0 true n0 M_X11_steps x 0 0 0 [(0, (21, a0)), (1, (0, a1))] [] h := by
  unfold fX11_steps at hr
  refine r_iconst dX11_steps_0 (by decide) ?_
  refine r_istore_n dX11_steps_1 rfl (Or.inl rfl) (by decide) (lv' := [(2, (0, 0)), (0, (21, a0)), (1, (0, a1))]) rfl ?_
  refine r_sub [1, 2, 0] (lv' := [(0, (21, a0)), (1, (0, a1)), (2, (0, 0))]) rfl ?_
  exact lp_ok (w := fun (q : Int) => Wq p l e R s m args below meth c D G A H0 true n0 M_X11_steps x 0 0 2 [(0, (21, a0)), (1, (0, a1)), (2, (0, q))] [] (h)) (K := K) (fun q r h1 h2 => oX11_steps_s2 (K := Sum.elim (fun (q : Int) => Wq p l e R s m args below meth c D G A H0 true n0 M_X11_steps x 0 0 2 [(0, (21, a0)), (1, (0, a1)), (2, (0, q))] [] (h)) (K)) (fun r z => k0 r z) (fun _ z => z) h1 h2) hr hk
end M_X11_steps
theorem oX11_steps {l : Launch} {D : va_G} {G : gG} {h : hH} {a0 a1 : Int} {r : Int} (hr : fX11_steps h a0 a1 = some r) : Ctr l D G true yX11_steps M_X11_steps [(21, a0), (0, a1)] h (some (0, r), h) :=
  Ctr_of (by decide) rfl (fun z => by cases z) (nl rfl) (fun {p e R s m args below meth c A H0} => by
    exact oX11_steps_b0 (K := fun z9 => z9 = r) (fun r9 z => by rw [z]) hr rfl)
/-! X11_violated -/
theorem dX11_violated_0 : decode cX11_violated 0 = .ok (.aload_n 0, 1) := by decide +kernel
theorem dX11_violated_1 : decode cX11_violated 1 = .ok (.getfield 67, 3) := by decide +kernel
theorem dX11_violated_4 : decode cX11_violated 4 = .ok (.getfield 193, 3) := by decide +kernel
theorem dX11_violated_7 : decode cX11_violated 7 = .ok (.iload_n 1, 1) := by decide +kernel
theorem dX11_violated_8 : decode cX11_violated 8 = .ok (.iload_n 2, 1) := by decide +kernel
theorem dX11_violated_9 : decode cX11_violated 9 = .ok (.invokevirtual 197, 3) := by decide +kernel
theorem dX11_violated_12 : decode cX11_violated 12 = .ok (.ireturn, 1) := by decide +kernel
abbrev M_X11_violated : mM := (cX11_violated, 3, RX11, some .int, false, 2, 44, 0, 0)
theorem gX11_violated : cI yX11_violated M_X11_violated 2 := ⟨(wsl_48 _ (List.mem_of_getElem? (i := 19) rfl)), (wsl_48 _ (List.mem_of_getElem? (i := 20) rfl)), (wsl_1 _ (List.mem_of_getElem? (i := 2) rfl)), (wsl_48 _ (List.mem_of_getElem? (i := 21) rfl)), by decide +kernel⟩
noncomputable def fX11_violated (h : hH) (a0 a1 a2 : Int) : Option (Int) :=
  (fX10_tell h (h (h a0 7) 3) a1 a2).bind fun r9 =>
  some r9
section M_X11_violated
variable {p : Program} {l : Launch} {e : Env} {R : Room} {s : State} {m : MethodId} {args : Array Value} {below : List Frame} {meth : Method} {c : Code} {D : va_G} {G : gG} {A : Nat → Prop} {H0 : Heap} {n0 : Int} {x : Option vV × hH} {h : hH}
set_option maxRecDepth 100000 in
set_option maxHeartbeats 4000000 in
theorem oX11_violated_b0 {a0 a1 a2 : Int} {K : Int → Prop} (k0 : ∀ r, K (r) → x = (some (0, r), h)) {r : Int} (hr : fX11_violated h a0 a1 a2 = some r) (hk : K r) : Wq p l e R s m args below meth c D G A H0 true n0 M_X11_violated x 0 0 0 [(0, (21, a0)), (1, (0, a1)), (2, (0, a2))] [] h := by
  unfold fX11_violated at hr
  refine r_aload_n dX11_violated_0 rfl 0 rfl (nl rfl) ?_
  refine r_get 11 7 (o := a0) (w := (11, h a0 7)) (T := TX11) (ref := "FollowingRefs") rfl (by decide) rfl (by decide) inlX11 (wsl_2 _ (List.mem_of_getElem? (i := 20) rfl)) rfl dX11_violated_1 rfl ?_
  refine r_get 1 3 (o := h a0 7) (w := (20, h (h a0 7) 3)) (T := TX1) (ref := "FollowingRefs$Judge") rfl (by decide) rfl (by decide) inlX1 (wsl_48 _ (List.mem_of_getElem? (i := 22) rfl)) rfl dX11_violated_4 rfl ?_
  refine r_iload_n dX11_violated_7 rfl 1 rfl (Or.inl rfl) ?_
  refine r_iload_n dX11_violated_8 rfl 2 rfl (Or.inl rfl) ?_
  obtain ⟨r9, hg9, hr⟩ := bnd hr
  refine k_V (ci := 10) (o := h (h a0 7) 3) (T := TX10) (as := [(0, a1), (0, a2)]) (rest := []) (X := (some (0, r9), h)) (oX10_tell hg9) gX10_tell rfl (by decide) rfl (wsl_48 _ (List.mem_of_getElem? (i := 23) rfl)) rfl dX11_violated_9 rfl ?_
  obtain rfl := Option.some.inj hr
  exact r_ret dX11_violated_12 rfl (Or.inl ⟨rfl, rfl⟩) (k0 _ hk) ⟨rfl, rfl⟩
end M_X11_violated
theorem oX11_violated {l : Launch} {D : va_G} {G : gG} {h : hH} {a0 a1 a2 : Int} {r : Int} (hr : fX11_violated h a0 a1 a2 = some r) : Ctr l D G true yX11_violated M_X11_violated [(21, a0), (0, a1), (0, a2)] h (some (0, r), h) :=
  Ctr_of (by decide) rfl (fun z => by cases z) (nl rfl) (fun {p e R s m args below meth c A H0} => by
    exact oX11_violated_b0 (K := fun z9 => z9 = r) (fun r9 z => by rw [z]) hr rfl)
/-! X11_begin -/
theorem dX11_begin_0 : decode cX11_begin 0 = .ok (.aload_n 0, 1) := by decide +kernel
theorem dX11_begin_1 : decode cX11_begin 1 = .ok (.getfield 26, 3) := by decide +kernel
theorem dX11_begin_4 : decode cX11_begin 4 = .ok (.getfield 203, 3) := by decide +kernel
theorem dX11_begin_7 : decode cX11_begin 7 = .ok (.ifCond .eq 5, 3) := by decide +kernel
theorem dX11_begin_10 : decode cX11_begin 10 = .ok (.iconst 1, 1) := by decide +kernel
theorem dX11_begin_11 : decode cX11_begin 11 = .ok (.ireturn, 1) := by decide +kernel
theorem dX11_begin_12 : decode cX11_begin 12 = .ok (.aload_n 0, 1) := by decide +kernel
theorem dX11_begin_13 : decode cX11_begin 13 = .ok (.aload_n 0, 1) := by decide +kernel
theorem dX11_begin_14 : decode cX11_begin 14 = .ok (.getfield 26, 3) := by decide +kernel
theorem dX11_begin_17 : decode cX11_begin 17 = .ok (.invokevirtual 148, 3) := by decide +kernel
theorem dX11_begin_20 : decode cX11_begin 20 = .ok (.aload_n 0, 1) := by decide +kernel
theorem dX11_begin_21 : decode cX11_begin 21 = .ok (.getfield 26, 3) := by decide +kernel
theorem dX11_begin_24 : decode cX11_begin 24 = .ok (.invokevirtual 206, 3) := by decide +kernel
theorem dX11_begin_27 : decode cX11_begin 27 = .ok (.pop, 1) := by decide +kernel
theorem dX11_begin_28 : decode cX11_begin 28 = .ok (.iconst 0, 1) := by decide +kernel
theorem dX11_begin_29 : decode cX11_begin 29 = .ok (.ireturn, 1) := by decide +kernel
abbrev M_X11_begin : mM := (cX11_begin, 1, RX11, some .int, false, 5, 169, 0, 0)
theorem gX11_begin : cI yX11_begin M_X11_begin 0 := ⟨(wsl_49 _ (List.mem_of_getElem? (i := 5) rfl)), (wsl_49 _ (List.mem_of_getElem? (i := 6) rfl)), (wsl_1 _ (List.mem_of_getElem? (i := 2) rfl)), (wsl_49 _ (List.mem_of_getElem? (i := 7) rfl)), by decide +kernel⟩
noncomputable def fX11_begin (h : hH) (a0 : Int) : Option (Int × hH) :=
  if h (h a0 2) 2 = 0 then
    (fX11_keepForUndo h a0 (h a0 2)).bind fun h17 =>
    (fX8_start h17 (h17 a0 2)).bind fun q24 =>
    some (0, q24.2)
  else
    some (1, h)
section M_X11_begin
variable {p : Program} {l : Launch} {e : Env} {R : Room} {s : State} {m : MethodId} {args : Array Value} {below : List Frame} {meth : Method} {c : Code} {D : va_G} {G : gG} {A : Nat → Prop} {H0 : Heap} {n0 : Int} {x : Option vV × hH} {h : hH}
set_option maxRecDepth 100000 in
set_option maxHeartbeats 4000000 in
theorem oX11_begin_b0 {a0 : Int} {K : Int × hH → Prop} (k0 : ∀ r, K (r) → x = (some (0, r.1), r.2)) {r : Int × hH} (hr : fX11_begin h a0 = some r) (hk : K r) : Wq p l e R s m args below meth c D G A H0 true n0 M_X11_begin x 0 0 0 [(0, (21, a0))] [] h := by
  unfold fX11_begin at hr
  refine r_aload_n dX11_begin_0 rfl 0 rfl (nl rfl) ?_
  refine r_get 11 2 (o := a0) (w := (18, h a0 2)) (T := TX11) (ref := "FollowingRefs") rfl (by decide) rfl (by decide) inlX11 (wsl_2 _ (List.mem_of_getElem? (i := 0) rfl)) rfl dX11_begin_1 rfl ?_
  refine r_get 8 2 (o := h a0 2) (w := (2, h (h a0 2) 2)) (T := TX8) (ref := "FollowingRefs$State") rfl (by decide) rfl (by decide) inlX8 (wsl_49 _ (List.mem_of_getElem? (i := 8) rfl)) rfl dX11_begin_4 rfl ?_
  refine r_scast 0 (v := (2, h (h a0 2) 2)) (w := (0, h (h a0 2) 2)) rfl zc hTz (st' := [(0, h (h a0 2) 2)]) rfl ?_
  refine r_if_eq dX11_begin_7 (tgt := 12) (by decide) (fun hc => ?_) (fun hc => ?_)
  · have hr := ifp hr hc
    refine r_aload_n dX11_begin_12 rfl 0 rfl (nl rfl) ?_
    refine r_aload_n dX11_begin_13 rfl 0 rfl (nl rfl) ?_
    refine r_get 11 2 (o := a0) (w := (18, h a0 2)) (T := TX11) (ref := "FollowingRefs") rfl (by decide) rfl (by decide) inlX11 (wsl_2 _ (List.mem_of_getElem? (i := 0) rfl)) rfl dX11_begin_14 rfl ?_
    obtain ⟨h17, hg17, hr⟩ := bnd hr
    refine k_V (ci := 11) (o := a0) (T := TX11) (as := [(18, h a0 2)]) (rest := []) (X := (none, h17)) (oX11_keepForUndo hg17) gX11_keepForUndo rfl (by decide) rfl (wsl_39 _ (List.mem_of_getElem? (i := 17) rfl)) rfl dX11_begin_17 rfl ?_
    refine r_aload_n dX11_begin_20 rfl 0 rfl (nl rfl) ?_
    refine r_get 11 2 (o := a0) (w := (18, h17 a0 2)) (T := TX11) (ref := "FollowingRefs") rfl (by decide) rfl (by decide) inlX11 (wsl_2 _ (List.mem_of_getElem? (i := 0) rfl)) rfl dX11_begin_21 rfl ?_
    obtain ⟨q24, hg24, hr⟩ := bnd hr
    refine k_V (ci := 8) (o := h17 a0 2) (T := TX8) (as := []) (rest := []) (X := (some (2, q24.1), q24.2)) (oX8_start hg24) gX8_start rfl (by decide) rfl (wsl_49 _ (List.mem_of_getElem? (i := 9) rfl)) rfl dX11_begin_24 rfl ?_
    refine r_pop dX11_begin_27 (Nat.ne_of_beq_eq_false rfl) ?_
    refine r_iconst dX11_begin_28 (by decide) ?_
    obtain rfl := Option.some.inj hr
    exact r_ret dX11_begin_29 rfl (Or.inl ⟨rfl, rfl⟩) (k0 _ hk) ⟨rfl, rfl⟩
  · have hr := ifn hr hc
    refine r_iconst dX11_begin_10 (by decide) ?_
    obtain rfl := Option.some.inj hr
    exact r_ret dX11_begin_11 rfl (Or.inl ⟨rfl, rfl⟩) (k0 _ hk) ⟨rfl, rfl⟩
end M_X11_begin
theorem oX11_begin {l : Launch} {D : va_G} {G : gG} {h : hH} {a0 : Int} {r : Int × hH} (hr : fX11_begin h a0 = some r) : Ctr l D G true yX11_begin M_X11_begin [(21, a0)] h (some (0, r.1), r.2) :=
  Ctr_of (by decide) rfl (fun z => by cases z) (nl rfl) (fun {p e R s m args below meth c A H0} => by
    exact oX11_begin_b0 (K := fun z9 => z9 = r) (fun r9 z => by rw [z]) hr rfl)
/-! X11_commit -/
theorem dX11_commit_0 : decode cX11_commit 0 = .ok (.aload_n 0, 1) := by decide +kernel
theorem dX11_commit_1 : decode cX11_commit 1 = .ok (.getfield 67, 3) := by decide +kernel
theorem dX11_commit_4 : decode cX11_commit 4 = .ok (.getfield 193, 3) := by decide +kernel
theorem dX11_commit_7 : decode cX11_commit 7 = .ok (.invokevirtual 209, 3) := by decide +kernel
theorem dX11_commit_10 : decode cX11_commit 10 = .ok (.aload_n 0, 1) := by decide +kernel
theorem dX11_commit_11 : decode cX11_commit 11 = .ok (.getfield 26, 3) := by decide +kernel
theorem dX11_commit_14 : decode cX11_commit 14 = .ok (.getfield 203, 3) := by decide +kernel
theorem dX11_commit_17 : decode cX11_commit 17 = .ok (.ifCond .ne 5, 3) := by decide +kernel
theorem dX11_commit_20 : decode cX11_commit 20 = .ok (.iconst 1, 1) := by decide +kernel
theorem dX11_commit_21 : decode cX11_commit 21 = .ok (.ireturn, 1) := by decide +kernel
theorem dX11_commit_22 : decode cX11_commit 22 = .ok (.aload_n 0, 1) := by decide +kernel
theorem dX11_commit_23 : decode cX11_commit 23 = .ok (.getfield 67, 3) := by decide +kernel
theorem dX11_commit_26 : decode cX11_commit 26 = .ok (.getfield 193, 3) := by decide +kernel
theorem dX11_commit_29 : decode cX11_commit 29 = .ok (.aload_n 0, 1) := by decide +kernel
theorem dX11_commit_30 : decode cX11_commit 30 = .ok (.getfield 19, 3) := by decide +kernel
theorem dX11_commit_33 : decode cX11_commit 33 = .ok (.aload_n 0, 1) := by decide +kernel
theorem dX11_commit_34 : decode cX11_commit 34 = .ok (.getfield 26, 3) := by decide +kernel
theorem dX11_commit_37 : decode cX11_commit 37 = .ok (.getfield 152, 3) := by decide +kernel
theorem dX11_commit_40 : decode cX11_commit 40 = .ok (.iconst 1, 1) := by decide +kernel
theorem dX11_commit_41 : decode cX11_commit 41 = .ok (.invokevirtual 210, 3) := by decide +kernel
theorem dX11_commit_44 : decode cX11_commit 44 = .ok (.ifCond .le 5, 3) := by decide +kernel
theorem dX11_commit_47 : decode cX11_commit 47 = .ok (.iconst 2, 1) := by decide +kernel
theorem dX11_commit_48 : decode cX11_commit 48 = .ok (.ireturn, 1) := by decide +kernel
theorem dX11_commit_49 : decode cX11_commit 49 = .ok (.aload_n 0, 1) := by decide +kernel
theorem dX11_commit_50 : decode cX11_commit 50 = .ok (.aload_n 0, 1) := by decide +kernel
theorem dX11_commit_51 : decode cX11_commit 51 = .ok (.getfield 26, 3) := by decide +kernel
theorem dX11_commit_54 : decode cX11_commit 54 = .ok (.invokevirtual 148, 3) := by decide +kernel
theorem dX11_commit_57 : decode cX11_commit 57 = .ok (.aload_n 0, 1) := by decide +kernel
theorem dX11_commit_58 : decode cX11_commit 58 = .ok (.getfield 26, 3) := by decide +kernel
theorem dX11_commit_61 : decode cX11_commit 61 = .ok (.iconst 0, 1) := by decide +kernel
theorem dX11_commit_62 : decode cX11_commit 62 = .ok (.putfield 203, 3) := by decide +kernel
theorem dX11_commit_65 : decode cX11_commit 65 = .ok (.iconst 0, 1) := by decide +kernel
theorem dX11_commit_66 : decode cX11_commit 66 = .ok (.ireturn, 1) := by decide +kernel
abbrev M_X11_commit : mM := (cX11_commit, 1, RX11, some .int, false, 5, 169, 0, 0)
theorem gX11_commit : cI yX11_commit M_X11_commit 0 := ⟨(wsl_50 _ (List.mem_of_getElem? (i := 6) rfl)), (wsl_50 _ (List.mem_of_getElem? (i := 7) rfl)), (wsl_1 _ (List.mem_of_getElem? (i := 2) rfl)), (wsl_50 _ (List.mem_of_getElem? (i := 8) rfl)), by decide +kernel⟩
noncomputable def fX11_commit (h : hH) (a0 : Int) : Option (Int × hH) :=
  (fX10_reset h (h (h a0 7) 3)).bind fun h7 =>
  if h7 (h7 a0 2) 2 = 0 then
    some (1, h7)
  else
    (fX10_scan h7 (h7 (h7 a0 7) 3) (h7 a0 1) (h7 (h7 a0 2) 0) 1).bind fun q41 =>
    if 0 < q41.1 then
      some (2, q41.2)
    else
      (fX11_keepForUndo q41.2 a0 (q41.2 a0 2)).bind fun h54 =>
      (pput h54 (h54 a0 2) 2 0).bind fun h62 =>
      some (0, h62)
section M_X11_commit
variable {p : Program} {l : Launch} {e : Env} {R : Room} {s : State} {m : MethodId} {args : Array Value} {below : List Frame} {meth : Method} {c : Code} {D : va_G} {G : gG} {A : Nat → Prop} {H0 : Heap} {n0 : Int} {x : Option vV × hH} {h : hH}
set_option maxRecDepth 100000 in
set_option maxHeartbeats 4000000 in
theorem oX11_commit_b0 {a0 : Int} {K : Int × hH → Prop} (k0 : ∀ r, K (r) → x = (some (0, r.1), r.2)) {r : Int × hH} (hr : fX11_commit h a0 = some r) (hk : K r) : Wq p l e R s m args below meth c D G A H0 true n0 M_X11_commit x 0 0 0 [(0, (21, a0))] [] h := by
  unfold fX11_commit at hr
  refine r_aload_n dX11_commit_0 rfl 0 rfl (nl rfl) ?_
  refine r_get 11 7 (o := a0) (w := (11, h a0 7)) (T := TX11) (ref := "FollowingRefs") rfl (by decide) rfl (by decide) inlX11 (wsl_2 _ (List.mem_of_getElem? (i := 20) rfl)) rfl dX11_commit_1 rfl ?_
  refine r_get 1 3 (o := h a0 7) (w := (20, h (h a0 7) 3)) (T := TX1) (ref := "FollowingRefs$Judge") rfl (by decide) rfl (by decide) inlX1 (wsl_48 _ (List.mem_of_getElem? (i := 22) rfl)) rfl dX11_commit_4 rfl ?_
  obtain ⟨h7, hg7, hr⟩ := bnd hr
  refine k_V (ci := 10) (o := h (h a0 7) 3) (T := TX10) (as := []) (rest := []) (X := (none, h7)) (oX10_reset hg7) gX10_reset rfl (by decide) rfl (wsl_50 _ (List.mem_of_getElem? (i := 9) rfl)) rfl dX11_commit_7 rfl ?_
  refine r_aload_n dX11_commit_10 rfl 0 rfl (nl rfl) ?_
  refine r_get 11 2 (o := a0) (w := (18, h7 a0 2)) (T := TX11) (ref := "FollowingRefs") rfl (by decide) rfl (by decide) inlX11 (wsl_2 _ (List.mem_of_getElem? (i := 0) rfl)) rfl dX11_commit_11 rfl ?_
  refine r_get 8 2 (o := h7 a0 2) (w := (2, h7 (h7 a0 2) 2)) (T := TX8) (ref := "FollowingRefs$State") rfl (by decide) rfl (by decide) inlX8 (wsl_49 _ (List.mem_of_getElem? (i := 8) rfl)) rfl dX11_commit_14 rfl ?_
  refine r_scast 0 (v := (2, h7 (h7 a0 2) 2)) (w := (0, h7 (h7 a0 2) 2)) rfl zc hTz (st' := [(0, h7 (h7 a0 2) 2)]) rfl ?_
  refine r_if_ne dX11_commit_17 (tgt := 22) (by decide) (fun hc => ?_) (fun hc => ?_)
  · have hr := ifn hr hc
    refine r_aload_n dX11_commit_22 rfl 0 rfl (nl rfl) ?_
    refine r_get 11 7 (o := a0) (w := (11, h7 a0 7)) (T := TX11) (ref := "FollowingRefs") rfl (by decide) rfl (by decide) inlX11 (wsl_2 _ (List.mem_of_getElem? (i := 20) rfl)) rfl dX11_commit_23 rfl ?_
    refine r_get 1 3 (o := h7 a0 7) (w := (20, h7 (h7 a0 7) 3)) (T := TX1) (ref := "FollowingRefs$Judge") rfl (by decide) rfl (by decide) inlX1 (wsl_48 _ (List.mem_of_getElem? (i := 22) rfl)) rfl dX11_commit_26 rfl ?_
    refine r_aload_n dX11_commit_29 rfl 0 rfl (nl rfl) ?_
    refine r_get 11 1 (o := a0) (w := (14, h7 a0 1)) (T := TX11) (ref := "FollowingRefs") rfl (by decide) rfl (by decide) inlX11 (wsl_1 _ (List.mem_of_getElem? (i := 20) rfl)) rfl dX11_commit_30 rfl ?_
    refine r_aload_n dX11_commit_33 rfl 0 rfl (nl rfl) ?_
    refine r_get 11 2 (o := a0) (w := (18, h7 a0 2)) (T := TX11) (ref := "FollowingRefs") rfl (by decide) rfl (by decide) inlX11 (wsl_2 _ (List.mem_of_getElem? (i := 0) rfl)) rfl dX11_commit_34 rfl ?_
    refine r_get 8 0 (o := h7 a0 2) (w := (13, h7 (h7 a0 2) 0)) (T := TX8) (ref := "FollowingRefs$State") rfl (by decide) rfl (by decide) inlX8 (wsl_29 _ (List.mem_of_getElem? (i := 9) rfl)) rfl dX11_commit_37 rfl ?_
    refine r_iconst dX11_commit_40 (by decide) ?_
    refine r_scast 0 (v := (0, 1)) (w := (2, 1)) rfl cz (fun _ => Or.inr rfl) (st' := [(2, 1), (13, h7 (h7 a0 2) 0), (14, h7 a0 1), (20, h7 (h7 a0 7) 3)]) rfl ?_
    obtain ⟨q41, hg41, hr⟩ := bnd hr
    refine k_V (ci := 10) (o := h7 (h7 a0 7) 3) (T := TX10) (as := [(14, h7 a0 1), (13, h7 (h7 a0 2) 0), (2, 1)]) (rest := []) (X := (some (0, q41.1), q41.2)) (oX10_scan hg41) gX10_scan rfl (by decide) rfl (wsl_50 _ (List.mem_of_getElem? (i := 10) rfl)) rfl dX11_commit_41 rfl ?_
    refine r_if_le dX11_commit_44 (tgt := 49) (by decide) (fun hc => ?_) (fun hc => ?_)
    · have hr := ifn hr hc
      refine r_aload_n dX11_commit_49 rfl 0 rfl (nl rfl) ?_
      refine r_aload_n dX11_commit_50 rfl 0 rfl (nl rfl) ?_
      refine r_get 11 2 (o := a0) (w := (18, q41.2 a0 2)) (T := TX11) (ref := "FollowingRefs") rfl (by decide) rfl (by decide) inlX11 (wsl_2 _ (List.mem_of_getElem? (i := 0) rfl)) rfl dX11_commit_51 rfl ?_
      obtain ⟨h54, hg54, hr⟩ := bnd hr
      refine k_V (ci := 11) (o := a0) (T := TX11) (as := [(18, q41.2 a0 2)]) (rest := []) (X := (none, h54)) (oX11_keepForUndo hg54) gX11_keepForUndo rfl (by decide) rfl (wsl_39 _ (List.mem_of_getElem? (i := 17) rfl)) rfl dX11_commit_54 rfl ?_
      refine r_aload_n dX11_commit_57 rfl 0 rfl (nl rfl) ?_
      refine r_get 11 2 (o := a0) (w := (18, h54 a0 2)) (T := TX11) (ref := "FollowingRefs") rfl (by decide) rfl (by decide) inlX11 (wsl_2 _ (List.mem_of_getElem? (i := 0) rfl)) rfl dX11_commit_58 rfl ?_
      refine r_iconst dX11_commit_61 (by decide) ?_
      refine r_scast 0 (v := (0, 0)) (w := (2, 0)) rfl cz (fun _ => Or.inl rfl) (st' := [(2, 0), (18, h54 a0 2)]) rfl ?_
      obtain ⟨h62, hg62, hr⟩ := bnd hr
      refine r_put' 8 2 (t := 2) (ref := "FollowingRefs$State") hg62 rfl tyX8 tyX8_ok nmX8 rfl (by decide) rfl (by decide) inlX8 (wsl_49 _ (List.mem_of_getElem? (i := 8) rfl)) rfl rfl (by decide +kernel) (by decide) rfl (Or.inr (Or.inr (Or.inl ⟨rfl, rfl⟩))) dX11_commit_62 ?_
      refine r_iconst dX11_commit_65 (by decide) ?_
      obtain rfl := Option.some.inj hr
      exact r_ret dX11_commit_66 rfl (Or.inl ⟨rfl, rfl⟩) (k0 _ hk) ⟨rfl, rfl⟩
    · have hr := ifp hr hc
      refine r_iconst dX11_commit_47 (by decide) ?_
      obtain rfl := Option.some.inj hr
      exact r_ret dX11_commit_48 rfl (Or.inl ⟨rfl, rfl⟩) (k0 _ hk) ⟨rfl, rfl⟩
  · have hr := ifp hr hc
    refine r_iconst dX11_commit_20 (by decide) ?_
    obtain rfl := Option.some.inj hr
    exact r_ret dX11_commit_21 rfl (Or.inl ⟨rfl, rfl⟩) (k0 _ hk) ⟨rfl, rfl⟩
end M_X11_commit
theorem oX11_commit {l : Launch} {D : va_G} {G : gG} {h : hH} {a0 : Int} {r : Int × hH} (hr : fX11_commit h a0 = some r) : Ctr l D G true yX11_commit M_X11_commit [(21, a0)] h (some (0, r.1), r.2) :=
  Ctr_of (by decide) rfl (fun z => by cases z) (nl rfl) (fun {p e R s m args below meth c A H0} => by
    exact oX11_commit_b0 (K := fun z9 => z9 = r) (fun r9 z => by rw [z]) hr rfl)
/-! X11_back -/
theorem dX11_back_0 : decode cX11_back 0 = .ok (.aload_n 0, 1) := by decide +kernel
theorem dX11_back_1 : decode cX11_back 1 = .ok (.getfield 26, 3) := by decide +kernel
theorem dX11_back_4 : decode cX11_back 4 = .ok (.getfield 203, 3) := by decide +kernel
theorem dX11_back_7 : decode cX11_back 7 = .ok (.ifCond .ne 5, 3) := by decide +kernel
theorem dX11_back_10 : decode cX11_back 10 = .ok (.iconst 1, 1) := by decide +kernel
theorem dX11_back_11 : decode cX11_back 11 = .ok (.ireturn, 1) := by decide +kernel
theorem dX11_back_12 : decode cX11_back 12 = .ok (.aload_n 0, 1) := by decide +kernel
theorem dX11_back_13 : decode cX11_back 13 = .ok (.aload_n 0, 1) := by decide +kernel
theorem dX11_back_14 : decode cX11_back 14 = .ok (.getfield 26, 3) := by decide +kernel
theorem dX11_back_17 : decode cX11_back 17 = .ok (.invokevirtual 148, 3) := by decide +kernel
theorem dX11_back_20 : decode cX11_back 20 = .ok (.aload_n 0, 1) := by decide +kernel
theorem dX11_back_21 : decode cX11_back 21 = .ok (.getfield 26, 3) := by decide +kernel
theorem dX11_back_24 : decode cX11_back 24 = .ok (.invokevirtual 214, 3) := by decide +kernel
theorem dX11_back_27 : decode cX11_back 27 = .ok (.pop, 1) := by decide +kernel
theorem dX11_back_28 : decode cX11_back 28 = .ok (.iconst 0, 1) := by decide +kernel
theorem dX11_back_29 : decode cX11_back 29 = .ok (.ireturn, 1) := by decide +kernel
abbrev M_X11_back : mM := (cX11_back, 1, RX11, some .int, false, 5, 169, 0, 0)
theorem gX11_back : cI yX11_back M_X11_back 0 := ⟨(wsl_51 _ (List.mem_of_getElem? (i := 4) rfl)), (wsl_51 _ (List.mem_of_getElem? (i := 5) rfl)), (wsl_1 _ (List.mem_of_getElem? (i := 2) rfl)), (wsl_51 _ (List.mem_of_getElem? (i := 6) rfl)), by decide +kernel⟩
noncomputable def fX11_back (h : hH) (a0 : Int) : Option (Int × hH) :=
  if h (h a0 2) 2 = 0 then
    some (1, h)
  else
    (fX11_keepForUndo h a0 (h a0 2)).bind fun h17 =>
    (fX8_goBack h17 (h17 a0 2)).bind fun q24 =>
    some (0, q24.2)
section M_X11_back
variable {p : Program} {l : Launch} {e : Env} {R : Room} {s : State} {m : MethodId} {args : Array Value} {below : List Frame} {meth : Method} {c : Code} {D : va_G} {G : gG} {A : Nat → Prop} {H0 : Heap} {n0 : Int} {x : Option vV × hH} {h : hH}
set_option maxRecDepth 100000 in
set_option maxHeartbeats 4000000 in
theorem oX11_back_b0 {a0 : Int} {K : Int × hH → Prop} (k0 : ∀ r, K (r) → x = (some (0, r.1), r.2)) {r : Int × hH} (hr : fX11_back h a0 = some r) (hk : K r) : Wq p l e R s m args below meth c D G A H0 true n0 M_X11_back x 0 0 0 [(0, (21, a0))] [] h := by
  unfold fX11_back at hr
  refine r_aload_n dX11_back_0 rfl 0 rfl (nl rfl) ?_
  refine r_get 11 2 (o := a0) (w := (18, h a0 2)) (T := TX11) (ref := "FollowingRefs") rfl (by decide) rfl (by decide) inlX11 (wsl_2 _ (List.mem_of_getElem? (i := 0) rfl)) rfl dX11_back_1 rfl ?_
  refine r_get 8 2 (o := h a0 2) (w := (2, h (h a0 2) 2)) (T := TX8) (ref := "FollowingRefs$State") rfl (by decide) rfl (by decide) inlX8 (wsl_49 _ (List.mem_of_getElem? (i := 8) rfl)) rfl dX11_back_4 rfl ?_
  refine r_scast 0 (v := (2, h (h a0 2) 2)) (w := (0, h (h a0 2) 2)) rfl zc hTz (st' := [(0, h (h a0 2) 2)]) rfl ?_
  refine r_if_ne dX11_back_7 (tgt := 12) (by decide) (fun hc => ?_) (fun hc => ?_)
  · have hr := ifn hr hc
    refine r_aload_n dX11_back_12 rfl 0 rfl (nl rfl) ?_
    refine r_aload_n dX11_back_13 rfl 0 rfl (nl rfl) ?_
    refine r_get 11 2 (o := a0) (w := (18, h a0 2)) (T := TX11) (ref := "FollowingRefs") rfl (by decide) rfl (by decide) inlX11 (wsl_2 _ (List.mem_of_getElem? (i := 0) rfl)) rfl dX11_back_14 rfl ?_
    obtain ⟨h17, hg17, hr⟩ := bnd hr
    refine k_V (ci := 11) (o := a0) (T := TX11) (as := [(18, h a0 2)]) (rest := []) (X := (none, h17)) (oX11_keepForUndo hg17) gX11_keepForUndo rfl (by decide) rfl (wsl_39 _ (List.mem_of_getElem? (i := 17) rfl)) rfl dX11_back_17 rfl ?_
    refine r_aload_n dX11_back_20 rfl 0 rfl (nl rfl) ?_
    refine r_get 11 2 (o := a0) (w := (18, h17 a0 2)) (T := TX11) (ref := "FollowingRefs") rfl (by decide) rfl (by decide) inlX11 (wsl_2 _ (List.mem_of_getElem? (i := 0) rfl)) rfl dX11_back_21 rfl ?_
    obtain ⟨q24, hg24, hr⟩ := bnd hr
    refine k_V (ci := 8) (o := h17 a0 2) (T := TX8) (as := []) (rest := []) (X := (some (2, q24.1), q24.2)) (oX8_goBack hg24) gX8_goBack rfl (by decide) rfl (wsl_51 _ (List.mem_of_getElem? (i := 7) rfl)) rfl dX11_back_24 rfl ?_
    refine r_pop dX11_back_27 (Nat.ne_of_beq_eq_false rfl) ?_
    refine r_iconst dX11_back_28 (by decide) ?_
    obtain rfl := Option.some.inj hr
    exact r_ret dX11_back_29 rfl (Or.inl ⟨rfl, rfl⟩) (k0 _ hk) ⟨rfl, rfl⟩
  · have hr := ifp hr hc
    refine r_iconst dX11_back_10 (by decide) ?_
    obtain rfl := Option.some.inj hr
    exact r_ret dX11_back_11 rfl (Or.inl ⟨rfl, rfl⟩) (k0 _ hk) ⟨rfl, rfl⟩
end M_X11_back
theorem oX11_back {l : Launch} {D : va_G} {G : gG} {h : hH} {a0 : Int} {r : Int × hH} (hr : fX11_back h a0 = some r) : Ctr l D G true yX11_back M_X11_back [(21, a0)] h (some (0, r.1), r.2) :=
  Ctr_of (by decide) rfl (fun z => by cases z) (nl rfl) (fun {p e R s m args below meth c A H0} => by
    exact oX11_back_b0 (K := fun z9 => z9 = r) (fun r9 z => by rw [z]) hr rfl)
/-! X11_undo -/
theorem dX11_undo_0 : decode cX11_undo 0 = .ok (.aload_n 0, 1) := by decide +kernel
theorem dX11_undo_1 : decode cX11_undo 1 = .ok (.getfield 128, 3) := by decide +kernel
theorem dX11_undo_4 : decode cX11_undo 4 = .ok (.iconst 1, 1) := by decide +kernel
theorem dX11_undo_5 : decode cX11_undo 5 = .ok (.if_icmp .lt 15, 3) := by decide +kernel
theorem dX11_undo_8 : decode cX11_undo 8 = .ok (.aload_n 0, 1) := by decide +kernel
theorem dX11_undo_9 : decode cX11_undo 9 = .ok (.getfield 128, 3) := by decide +kernel
theorem dX11_undo_12 : decode cX11_undo 12 = .ok (.aload_n 0, 1) := by decide +kernel
theorem dX11_undo_13 : decode cX11_undo 13 = .ok (.getfield 77, 3) := by decide +kernel
theorem dX11_undo_16 : decode cX11_undo 16 = .ok (.arraylength, 1) := by decide +kernel
theorem dX11_undo_17 : decode cX11_undo 17 = .ok (.if_icmp .le 5, 3) := by decide +kernel
theorem dX11_undo_20 : decode cX11_undo 20 = .ok (.iconst (-1), 1) := by decide +kernel
theorem dX11_undo_21 : decode cX11_undo 21 = .ok (.ireturn, 1) := by decide +kernel
theorem dX11_undo_22 : decode cX11_undo 22 = .ok (.aload_n 0, 1) := by decide +kernel
theorem dX11_undo_23 : decode cX11_undo 23 = .ok (.getfield 77, 3) := by decide +kernel
theorem dX11_undo_26 : decode cX11_undo 26 = .ok (.aload_n 0, 1) := by decide +kernel
theorem dX11_undo_27 : decode cX11_undo 27 = .ok (.getfield 128, 3) := by decide +kernel
theorem dX11_undo_30 : decode cX11_undo 30 = .ok (.iconst 1, 1) := by decide +kernel
theorem dX11_undo_31 : decode cX11_undo 31 = .ok (.isub, 1) := by decide +kernel
theorem dX11_undo_32 : decode cX11_undo 32 = .ok (.aaload, 1) := by decide +kernel
theorem dX11_undo_33 : decode cX11_undo 33 = .ok (.astore_n 1, 1) := by decide +kernel
theorem dX11_undo_34 : decode cX11_undo 34 = .ok (.aload_n 1, 1) := by decide +kernel
theorem dX11_undo_35 : decode cX11_undo 35 = .ok (.ifnonnull 5, 3) := by decide +kernel
theorem dX11_undo_38 : decode cX11_undo 38 = .ok (.iconst (-1), 1) := by decide +kernel
theorem dX11_undo_39 : decode cX11_undo 39 = .ok (.ireturn, 1) := by decide +kernel
theorem dX11_undo_40 : decode cX11_undo 40 = .ok (.aload_n 0, 1) := by decide +kernel
theorem dX11_undo_41 : decode cX11_undo 41 = .ok (.dup, 1) := by decide +kernel
theorem dX11_undo_42 : decode cX11_undo 42 = .ok (.getfield 128, 3) := by decide +kernel
theorem dX11_undo_45 : decode cX11_undo 45 = .ok (.iconst 1, 1) := by decide +kernel
theorem dX11_undo_46 : decode cX11_undo 46 = .ok (.isub, 1) := by decide +kernel
theorem dX11_undo_47 : decode cX11_undo 47 = .ok (.putfield 128, 3) := by decide +kernel
theorem dX11_undo_50 : decode cX11_undo 50 = .ok (.aload_n 0, 1) := by decide +kernel
theorem dX11_undo_51 : decode cX11_undo 51 = .ok (.getfield 26, 3) := by decide +kernel
theorem dX11_undo_54 : decode cX11_undo 54 = .ok (.aload_n 1, 1) := by decide +kernel
theorem dX11_undo_55 : decode cX11_undo 55 = .ok (.invokevirtual 217, 3) := by decide +kernel
theorem dX11_undo_58 : decode cX11_undo 58 = .ok (.aload_n 0, 1) := by decide +kernel
theorem dX11_undo_59 : decode cX11_undo 59 = .ok (.getfield 128, 3) := by decide +kernel
theorem dX11_undo_62 : decode cX11_undo 62 = .ok (.ireturn, 1) := by decide +kernel
abbrev M_X11_undo : mM := (cX11_undo, 2, RX11, some .int, false, 4, 147, 0, 0)
theorem gX11_undo : cI yX11_undo M_X11_undo 0 := ⟨(wsl_51 _ (List.mem_of_getElem? (i := 21) rfl)), (wsl_51 _ (List.mem_of_getElem? (i := 22) rfl)), (wsl_1 _ (List.mem_of_getElem? (i := 2) rfl)), (wsl_51 _ (List.mem_of_getElem? (i := 23) rfl)), by decide +kernel⟩
noncomputable def fX11_undo (h : hH) (a0 : Int) : Option (Int × hH) :=
  if h a0 11 < 1 then
    some (-1, h)
  else
    if h (h a0 10) (-1) < h a0 11 then
      some (-1, h)
    else
      (aget h (h a0 10) (w32 ((h a0 11) - 1))).bind fun v32 =>
      if v32 < 0 then
        some (-1, h)
      else
        (pput h a0 11 (w32 ((h a0 11) - 1))).bind fun h47 =>
        (fX8_copyFrom h47 (h47 a0 2) v32).bind fun h55 =>
        some (h55 a0 11, h55)
section M_X11_undo
variable {p : Program} {l : Launch} {e : Env} {R : Room} {s : State} {m : MethodId} {args : Array Value} {below : List Frame} {meth : Method} {c : Code} {D : va_G} {G : gG} {A : Nat → Prop} {H0 : Heap} {n0 : Int} {x : Option vV × hH} {h : hH}
set_option maxRecDepth 100000 in
set_option maxHeartbeats 4000000 in
theorem oX11_undo_b0 {a0 : Int} {K : Int × hH → Prop} (k0 : ∀ r, K (r) → x = (some (0, r.1), r.2)) {r : Int × hH} (hr : fX11_undo h a0 = some r) (hk : K r) : Wq p l e R s m args below meth c D G A H0 true n0 M_X11_undo x 0 0 0 [(0, (21, a0))] [] h := by
  unfold fX11_undo at hr
  refine r_aload_n dX11_undo_0 rfl 0 rfl (nl rfl) ?_
  refine r_get 11 11 (o := a0) (w := (0, h a0 11)) (T := TX11) (ref := "FollowingRefs") rfl (by decide) rfl (by decide) inlX11 (wsl_11 _ (List.mem_of_getElem? (i := 7) rfl)) rfl dX11_undo_1 rfl ?_
  refine r_iconst dX11_undo_4 (by decide) ?_
  refine r_icmp_lt dX11_undo_5 (tgt := 20) (by decide) (fun hc => ?_) (fun hc => ?_)
  · have hr := ifp hr hc
    refine r_iconst dX11_undo_20 (by decide) ?_
    obtain rfl := Option.some.inj hr
    exact r_ret dX11_undo_21 rfl (Or.inl ⟨rfl, rfl⟩) (k0 _ hk) ⟨rfl, rfl⟩
  · have hr := ifn hr hc
    refine r_aload_n dX11_undo_8 rfl 0 rfl (nl rfl) ?_
    refine r_get 11 11 (o := a0) (w := (0, h a0 11)) (T := TX11) (ref := "FollowingRefs") rfl (by decide) rfl (by decide) inlX11 (wsl_11 _ (List.mem_of_getElem? (i := 7) rfl)) rfl dX11_undo_9 rfl ?_
    refine r_aload_n dX11_undo_12 rfl 0 rfl (nl rfl) ?_
    refine r_get 11 10 (o := a0) (w := (54, h a0 10)) (T := TX11) (ref := "FollowingRefs") rfl (by decide) rfl (by decide) inlX11 (wsl_2 _ (List.mem_of_getElem? (i := 23) rfl)) rfl dX11_undo_13 rfl ?_
    refine r_alen (t := 54) (by decide) (by decide) dX11_undo_16 ?_
    refine r_icmp_le dX11_undo_17 (tgt := 22) (by decide) (fun hc => ?_) (fun hc => ?_)
    · have hr := ifn hr hc
      refine r_aload_n dX11_undo_22 rfl 0 rfl (nl rfl) ?_
      refine r_get 11 10 (o := a0) (w := (54, h a0 10)) (T := TX11) (ref := "FollowingRefs") rfl (by decide) rfl (by decide) inlX11 (wsl_2 _ (List.mem_of_getElem? (i := 23) rfl)) rfl dX11_undo_23 rfl ?_
      refine r_aload_n dX11_undo_26 rfl 0 rfl (nl rfl) ?_
      refine r_get 11 11 (o := a0) (w := (0, h a0 11)) (T := TX11) (ref := "FollowingRefs") rfl (by decide) rfl (by decide) inlX11 (wsl_11 _ (List.mem_of_getElem? (i := 7) rfl)) rfl dX11_undo_27 rfl ?_
      refine r_iconst dX11_undo_30 (by decide) ?_
      refine r_isub dX11_undo_31 ?_
      obtain ⟨v32, hg32, hr⟩ := bnd hr
      refine r_rald dX11_undo_32 hg32 ?_
      refine r_astore_n dX11_undo_33 rfl (nl rfl) (by decide) (lv' := [(1, (118, v32)), (0, (21, a0))]) rfl ?_
      refine r_aload_n dX11_undo_34 rfl 0 rfl (nl rfl) ?_
      refine r_ifnonnull (v := (118, v32)) (nl rfl) dX11_undo_35 (tgt := 40) (by decide) (fun hc => ?_) (fun hc => ?_)
      · have hr := ifp hr hc
        refine r_iconst dX11_undo_38 (by decide) ?_
        obtain rfl := Option.some.inj hr
        exact r_ret dX11_undo_39 rfl (Or.inl ⟨rfl, rfl⟩) (k0 _ hk) ⟨rfl, rfl⟩
      · have hr := ifn hr (Int.not_lt.mpr hc)
        refine r_lcast 0 (v := (118, v32)) (w := (18, v32)) rfl (cnn (t := 15)) (hTn (t := 15) (by decide) hc) (lv' := [(1, (18, v32)), (0, (21, a0))]) rfl ?_
        refine r_aload_n dX11_undo_40 rfl 1 rfl (nl rfl) ?_
        refine r_dup dX11_undo_41 (Nat.ne_of_beq_eq_false rfl) ?_
        refine r_get 11 11 (o := a0) (w := (0, h a0 11)) (T := TX11) (ref := "FollowingRefs") rfl (by decide) rfl (by decide) inlX11 (wsl_11 _ (List.mem_of_getElem? (i := 7) rfl)) rfl dX11_undo_42 rfl ?_
        refine r_iconst dX11_undo_45 (by decide) ?_
        refine r_isub dX11_undo_46 ?_
        obtain ⟨h47, hg47, hr⟩ := bnd hr
        refine r_put' 11 11 (t := 0) (ref := "FollowingRefs") hg47 rfl tyX11 tyX11_ok nmX11 rfl (by decide) rfl (by decide) inlX11 (wsl_11 _ (List.mem_of_getElem? (i := 7) rfl)) rfl rfl (by decide +kernel) (by decide) rfl (Or.inl ⟨rfl, rfl⟩) dX11_undo_47 ?_
        refine r_aload_n dX11_undo_50 rfl 1 rfl (nl rfl) ?_
        refine r_get 11 2 (o := a0) (w := (18, h47 a0 2)) (T := TX11) (ref := "FollowingRefs") rfl (by decide) rfl (by decide) inlX11 (wsl_2 _ (List.mem_of_getElem? (i := 0) rfl)) rfl dX11_undo_51 rfl ?_
        refine r_aload_n dX11_undo_54 rfl 0 rfl (nl rfl) ?_
        obtain ⟨h55, hg55, hr⟩ := bnd hr
        refine k_V (ci := 8) (o := h47 a0 2) (T := TX8) (as := [(18, v32)]) (rest := []) (X := (none, h55)) (oX8_copyFrom hg55) gX8_copyFrom rfl (by decide) rfl (wsl_40 _ (List.mem_of_getElem? (i := 1) rfl)) rfl dX11_undo_55 rfl ?_
        refine r_aload_n dX11_undo_58 rfl 1 rfl (nl rfl) ?_
        refine r_get 11 11 (o := a0) (w := (0, h55 a0 11)) (T := TX11) (ref := "FollowingRefs") rfl (by decide) rfl (by decide) inlX11 (wsl_11 _ (List.mem_of_getElem? (i := 7) rfl)) rfl dX11_undo_59 rfl ?_
        obtain rfl := Option.some.inj hr
        exact r_ret dX11_undo_62 rfl (Or.inl ⟨rfl, rfl⟩) (k0 _ hk) ⟨rfl, rfl⟩
    · have hr := ifp hr hc
      refine r_iconst dX11_undo_20 (by decide) ?_
      obtain rfl := Option.some.inj hr
      exact r_ret dX11_undo_21 rfl (Or.inl ⟨rfl, rfl⟩) (k0 _ hk) ⟨rfl, rfl⟩
end M_X11_undo
theorem oX11_undo {l : Launch} {D : va_G} {G : gG} {h : hH} {a0 : Int} {r : Int × hH} (hr : fX11_undo h a0 = some r) : Ctr l D G true yX11_undo M_X11_undo [(21, a0)] h (some (0, r.1), r.2) :=
  Ctr_of (by decide) rfl (fun z => by cases z) (nl rfl) (fun {p e R s m args below meth c A H0} => by
    exact oX11_undo_b0 (K := fun z9 => z9 = r) (fun r9 z => by rw [z]) hr rfl)
/-! X11_now -/
theorem dX11_now_0 : decode cX11_now 0 = .ok (.iload_n 1, 1) := by decide +kernel
theorem dX11_now_1 : decode cX11_now 1 = .ok (.tableswitch 92 0 3 #[31, 42, 53, 69], 31) := by decide +kernel
theorem dX11_now_32 : decode cX11_now 32 = .ok (.aload_n 0, 1) := by decide +kernel
theorem dX11_now_33 : decode cX11_now 33 = .ok (.getfield 26, 3) := by decide +kernel
theorem dX11_now_36 : decode cX11_now 36 = .ok (.getfield 152, 3) := by decide +kernel
theorem dX11_now_39 : decode cX11_now 39 = .ok (.getfield 222, 3) := by decide +kernel
theorem dX11_now_42 : decode cX11_now 42 = .ok (.ireturn, 1) := by decide +kernel
theorem dX11_now_43 : decode cX11_now 43 = .ok (.aload_n 0, 1) := by decide +kernel
theorem dX11_now_44 : decode cX11_now 44 = .ok (.getfield 26, 3) := by decide +kernel
theorem dX11_now_47 : decode cX11_now 47 = .ok (.getfield 152, 3) := by decide +kernel
theorem dX11_now_50 : decode cX11_now 50 = .ok (.getfield 225, 3) := by decide +kernel
theorem dX11_now_53 : decode cX11_now 53 = .ok (.ireturn, 1) := by decide +kernel
theorem dX11_now_54 : decode cX11_now 54 = .ok (.aload_n 0, 1) := by decide +kernel
theorem dX11_now_55 : decode cX11_now 55 = .ok (.getfield 26, 3) := by decide +kernel
theorem dX11_now_58 : decode cX11_now 58 = .ok (.getfield 203, 3) := by decide +kernel
theorem dX11_now_61 : decode cX11_now 61 = .ok (.ifCond .eq 7, 3) := by decide +kernel
theorem dX11_now_64 : decode cX11_now 64 = .ok (.iconst 1, 1) := by decide +kernel
theorem dX11_now_65 : decode cX11_now 65 = .ok (.goto 4, 3) := by decide +kernel
theorem dX11_now_68 : decode cX11_now 68 = .ok (.iconst 0, 1) := by decide +kernel
theorem dX11_now_69 : decode cX11_now 69 = .ok (.ireturn, 1) := by decide +kernel
theorem dX11_now_70 : decode cX11_now 70 = .ok (.aload_n 0, 1) := by decide +kernel
theorem dX11_now_71 : decode cX11_now 71 = .ok (.getfield 71, 3) := by decide +kernel
theorem dX11_now_74 : decode cX11_now 74 = .ok (.getfield 193, 3) := by decide +kernel
theorem dX11_now_77 : decode cX11_now 77 = .ok (.aload_n 0, 1) := by decide +kernel
theorem dX11_now_78 : decode cX11_now 78 = .ok (.getfield 19, 3) := by decide +kernel
theorem dX11_now_81 : decode cX11_now 81 = .ok (.aload_n 0, 1) := by decide +kernel
theorem dX11_now_82 : decode cX11_now 82 = .ok (.getfield 26, 3) := by decide +kernel
theorem dX11_now_85 : decode cX11_now 85 = .ok (.getfield 152, 3) := by decide +kernel
theorem dX11_now_88 : decode cX11_now 88 = .ok (.iconst 1, 1) := by decide +kernel
theorem dX11_now_89 : decode cX11_now 89 = .ok (.invokevirtual 210, 3) := by decide +kernel
theorem dX11_now_92 : decode cX11_now 92 = .ok (.ireturn, 1) := by decide +kernel
theorem dX11_now_93 : decode cX11_now 93 = .ok (.iconst (-1), 1) := by decide +kernel
theorem dX11_now_94 : decode cX11_now 94 = .ok (.ireturn, 1) := by decide +kernel
abbrev M_X11_now : mM := (cX11_now, 2, RX11, some .int, false, 5, 130, 0, 0)
theorem gX11_now : cI yX11_now M_X11_now 1 := ⟨(wsl_52 _ (List.mem_of_getElem? (i := 5) rfl)), (wsl_52 _ (List.mem_of_getElem? (i := 6) rfl)), (wsl_1 _ (List.mem_of_getElem? (i := 2) rfl)), (wsl_52 _ (List.mem_of_getElem? (i := 7) rfl)), by decide +kernel⟩
noncomputable def fX11_now (h : hH) (a0 a1 : Int) : Option (Int × hH) :=
  if a1 = 0 then
    some (h (h (h a0 2) 0) 0, h)
  else
    if a1 = 1 then
      some (h (h (h a0 2) 0) 1, h)
    else
      if a1 = 2 then
        if h (h a0 2) 2 = 0 then
          some (0, h)
        else
          some (1, h)
      else
        if a1 = 3 then
          (fX10_scan h (h (h a0 8) 3) (h a0 1) (h (h a0 2) 0) 1).bind fun q89 =>
          some (q89.1, q89.2)
        else
          some (-1, h)
section M_X11_now
variable {p : Program} {l : Launch} {e : Env} {R : Room} {s : State} {m : MethodId} {args : Array Value} {below : List Frame} {meth : Method} {c : Code} {D : va_G} {G : gG} {A : Nat → Prop} {H0 : Heap} {n0 : Int} {x : Option vV × hH} {h : hH}
set_option maxRecDepth 100000 in
set_option maxHeartbeats 4000000 in
theorem oX11_now_b0 {a0 a1 : Int} {K : Int × hH → Prop} (k0 : ∀ r, K (r) → x = (some (0, r.1), r.2)) {r : Int × hH} (hr : fX11_now h a0 a1 = some r) (hk : K r) : Wq p l e R s m args below meth c D G A H0 true n0 M_X11_now x 0 0 0 [(0, (21, a0)), (1, (0, a1))] [] h := by
  unfold fX11_now at hr
  refine r_iload_n dX11_now_0 rfl 1 rfl (Or.inl rfl) ?_
  by_cases hs0 : a1 = 0
  · have hr := ifp hr hs0
    refine r_tableIn dX11_now_1 (by omega) (by omega) (off := 31) (by rw [hs0]; rfl) (tgt := 32) (by decide) ?_
    refine r_aload_n dX11_now_32 rfl 0 rfl (nl rfl) ?_
    refine r_get 11 2 (o := a0) (w := (18, h a0 2)) (T := TX11) (ref := "FollowingRefs") rfl (by decide) rfl (by decide) inlX11 (wsl_2 _ (List.mem_of_getElem? (i := 0) rfl)) rfl dX11_now_33 rfl ?_
    refine r_get 8 0 (o := h a0 2) (w := (13, h (h a0 2) 0)) (T := TX8) (ref := "FollowingRefs$State") rfl (by decide) rfl (by decide) inlX8 (wsl_29 _ (List.mem_of_getElem? (i := 9) rfl)) rfl dX11_now_36 rfl ?_
    refine r_get 3 0 (o := h (h a0 2) 0) (w := (0, h (h (h a0 2) 0) 0)) (T := TX3) (ref := "FollowingRefs$Rows") rfl (by decide) rfl (by decide) inlX3 (wsl_52 _ (List.mem_of_getElem? (i := 8) rfl)) rfl dX11_now_39 rfl ?_
    obtain rfl := Option.some.inj hr
    exact r_ret dX11_now_42 rfl (Or.inl ⟨rfl, rfl⟩) (k0 _ hk) ⟨rfl, rfl⟩
  have hr := ifn hr hs0
  by_cases hs1 : a1 = 1
  · have hr := ifp hr hs1
    refine r_tableIn dX11_now_1 (by omega) (by omega) (off := 42) (by rw [hs1]; rfl) (tgt := 43) (by decide) ?_
    refine r_aload_n dX11_now_43 rfl 0 rfl (nl rfl) ?_
    refine r_get 11 2 (o := a0) (w := (18, h a0 2)) (T := TX11) (ref := "FollowingRefs") rfl (by decide) rfl (by decide) inlX11 (wsl_2 _ (List.mem_of_getElem? (i := 0) rfl)) rfl dX11_now_44 rfl ?_
    refine r_get 8 0 (o := h a0 2) (w := (13, h (h a0 2) 0)) (T := TX8) (ref := "FollowingRefs$State") rfl (by decide) rfl (by decide) inlX8 (wsl_29 _ (List.mem_of_getElem? (i := 9) rfl)) rfl dX11_now_47 rfl ?_
    refine r_get 3 1 (o := h (h a0 2) 0) (w := (0, h (h (h a0 2) 0) 1)) (T := TX3) (ref := "FollowingRefs$Rows") rfl (by decide) rfl (by decide) inlX3 (wsl_52 _ (List.mem_of_getElem? (i := 9) rfl)) rfl dX11_now_50 rfl ?_
    obtain rfl := Option.some.inj hr
    exact r_ret dX11_now_53 rfl (Or.inl ⟨rfl, rfl⟩) (k0 _ hk) ⟨rfl, rfl⟩
  have hr := ifn hr hs1
  by_cases hs2 : a1 = 2
  · have hr := ifp hr hs2
    refine r_tableIn dX11_now_1 (by omega) (by omega) (off := 53) (by rw [hs2]; rfl) (tgt := 54) (by decide) ?_
    refine r_aload_n dX11_now_54 rfl 0 rfl (nl rfl) ?_
    refine r_get 11 2 (o := a0) (w := (18, h a0 2)) (T := TX11) (ref := "FollowingRefs") rfl (by decide) rfl (by decide) inlX11 (wsl_2 _ (List.mem_of_getElem? (i := 0) rfl)) rfl dX11_now_55 rfl ?_
    refine r_get 8 2 (o := h a0 2) (w := (2, h (h a0 2) 2)) (T := TX8) (ref := "FollowingRefs$State") rfl (by decide) rfl (by decide) inlX8 (wsl_49 _ (List.mem_of_getElem? (i := 8) rfl)) rfl dX11_now_58 rfl ?_
    refine r_scast 0 (v := (2, h (h a0 2) 2)) (w := (0, h (h a0 2) 2)) rfl zc hTz (st' := [(0, h (h a0 2) 2)]) rfl ?_
    refine r_if_eq dX11_now_61 (tgt := 68) (by decide) (fun hc => ?_) (fun hc => ?_)
    · have hr := ifp hr hc
      refine r_iconst dX11_now_68 (by decide) ?_
      obtain rfl := Option.some.inj hr
      exact r_ret dX11_now_69 rfl (Or.inl ⟨rfl, rfl⟩) (k0 _ hk) ⟨rfl, rfl⟩
    · have hr := ifn hr hc
      refine r_iconst dX11_now_64 (by decide) ?_
      refine r_goto dX11_now_65 (tgt := 69) (by decide) ?_
      obtain rfl := Option.some.inj hr
      exact r_ret dX11_now_69 rfl (Or.inl ⟨rfl, rfl⟩) (k0 _ hk) ⟨rfl, rfl⟩
  have hr := ifn hr hs2
  by_cases hs3 : a1 = 3
  · have hr := ifp hr hs3
    refine r_tableIn dX11_now_1 (by omega) (by omega) (off := 69) (by rw [hs3]; rfl) (tgt := 70) (by decide) ?_
    refine r_aload_n dX11_now_70 rfl 0 rfl (nl rfl) ?_
    refine r_get 11 8 (o := a0) (w := (11, h a0 8)) (T := TX11) (ref := "FollowingRefs") rfl (by decide) rfl (by decide) inlX11 (wsl_2 _ (List.mem_of_getElem? (i := 21) rfl)) rfl dX11_now_71 rfl ?_
    refine r_get 1 3 (o := h a0 8) (w := (20, h (h a0 8) 3)) (T := TX1) (ref := "FollowingRefs$Judge") rfl (by decide) rfl (by decide) inlX1 (wsl_48 _ (List.mem_of_getElem? (i := 22) rfl)) rfl dX11_now_74 rfl ?_
    refine r_aload_n dX11_now_77 rfl 0 rfl (nl rfl) ?_
    refine r_get 11 1 (o := a0) (w := (14, h a0 1)) (T := TX11) (ref := "FollowingRefs") rfl (by decide) rfl (by decide) inlX11 (wsl_1 _ (List.mem_of_getElem? (i := 20) rfl)) rfl dX11_now_78 rfl ?_
    refine r_aload_n dX11_now_81 rfl 0 rfl (nl rfl) ?_
    refine r_get 11 2 (o := a0) (w := (18, h a0 2)) (T := TX11) (ref := "FollowingRefs") rfl (by decide) rfl (by decide) inlX11 (wsl_2 _ (List.mem_of_getElem? (i := 0) rfl)) rfl dX11_now_82 rfl ?_
    refine r_get 8 0 (o := h a0 2) (w := (13, h (h a0 2) 0)) (T := TX8) (ref := "FollowingRefs$State") rfl (by decide) rfl (by decide) inlX8 (wsl_29 _ (List.mem_of_getElem? (i := 9) rfl)) rfl dX11_now_85 rfl ?_
    refine r_iconst dX11_now_88 (by decide) ?_
    refine r_scast 0 (v := (0, 1)) (w := (2, 1)) rfl cz (fun _ => Or.inr rfl) (st' := [(2, 1), (13, h (h a0 2) 0), (14, h a0 1), (20, h (h a0 8) 3)]) rfl ?_
    obtain ⟨q89, hg89, hr⟩ := bnd hr
    refine k_V (ci := 10) (o := h (h a0 8) 3) (T := TX10) (as := [(14, h a0 1), (13, h (h a0 2) 0), (2, 1)]) (rest := []) (X := (some (0, q89.1), q89.2)) (oX10_scan hg89) gX10_scan rfl (by decide) rfl (wsl_50 _ (List.mem_of_getElem? (i := 10) rfl)) rfl dX11_now_89 rfl ?_
    obtain rfl := Option.some.inj hr
    exact r_ret dX11_now_92 rfl (Or.inl ⟨rfl, rfl⟩) (k0 _ hk) ⟨rfl, rfl⟩
  have hr := ifn hr hs3
  refine r_tableOut dX11_now_1 (by omega) (tgt := 93) (by decide) ?_
  refine r_iconst dX11_now_93 (by decide) ?_
  obtain rfl := Option.some.inj hr
  exact r_ret dX11_now_94 rfl (Or.inl ⟨rfl, rfl⟩) (k0 _ hk) ⟨rfl, rfl⟩
end M_X11_now
theorem oX11_now {l : Launch} {D : va_G} {G : gG} {h : hH} {a0 a1 : Int} {r : Int × hH} (hr : fX11_now h a0 a1 = some r) : Ctr l D G true yX11_now M_X11_now [(21, a0), (0, a1)] h (some (0, r.1), r.2) :=
  Ctr_of (by decide) rfl (fun z => by cases z) (nl rfl) (fun {p e R s m args below meth c A H0} => by
    exact oX11_now_b0 (K := fun z9 => z9 = r) (fun r9 z => by rw [z]) hr rfl)
/-! X11_rows -/
theorem dX11_rows_0 : decode cX11_rows 0 = .ok (.iload_n 1, 1) := by decide +kernel
theorem dX11_rows_1 : decode cX11_rows 1 = .ok (.ifCond .lt 14, 3) := by decide +kernel
theorem dX11_rows_4 : decode cX11_rows 4 = .ok (.iload_n 1, 1) := by decide +kernel
theorem dX11_rows_5 : decode cX11_rows 5 = .ok (.aload_n 0, 1) := by decide +kernel
theorem dX11_rows_6 : decode cX11_rows 6 = .ok (.getfield 19, 3) := by decide +kernel
theorem dX11_rows_9 : decode cX11_rows 9 = .ok (.getfield 228, 3) := by decide +kernel
theorem dX11_rows_12 : decode cX11_rows 12 = .ok (.if_icmp .lt 7, 3) := by decide +kernel
theorem dX11_rows_15 : decode cX11_rows 15 = .ok (.iconst (-1), 1) := by decide +kernel
theorem dX11_rows_16 : decode cX11_rows 16 = .ok (.goto 14, 3) := by decide +kernel
theorem dX11_rows_19 : decode cX11_rows 19 = .ok (.aload_n 0, 1) := by decide +kernel
theorem dX11_rows_20 : decode cX11_rows 20 = .ok (.getfield 26, 3) := by decide +kernel
theorem dX11_rows_23 : decode cX11_rows 23 = .ok (.getfield 152, 3) := by decide +kernel
theorem dX11_rows_26 : decode cX11_rows 26 = .ok (.iload_n 1, 1) := by decide +kernel
theorem dX11_rows_27 : decode cX11_rows 27 = .ok (.invokevirtual 231, 3) := by decide +kernel
theorem dX11_rows_30 : decode cX11_rows 30 = .ok (.ireturn, 1) := by decide +kernel
abbrev M_X11_rows : mM := (cX11_rows, 2, RX11, some .int, false, 2, 44, 0, 0)
theorem gX11_rows : cI yX11_rows M_X11_rows 1 := ⟨(wsl_52 _ (List.mem_of_getElem? (i := 19) rfl)), (wsl_52 _ (List.mem_of_getElem? (i := 20) rfl)), (wsl_1 _ (List.mem_of_getElem? (i := 2) rfl)), (wsl_52 _ (List.mem_of_getElem? (i := 21) rfl)), by decide +kernel⟩
noncomputable def fX11_rows_b15 (h : hH) : Option (Int) :=
  some (-1)
noncomputable def fX11_rows (h : hH) (a0 a1 : Int) : Option (Int) :=
  if a1 < 0 then
    fX11_rows_b15 h
  else
    if a1 < h (h a0 1) 0 then
      (fX3_countOf h (h (h a0 2) 0) a1).bind fun r27 =>
      some r27
    else
      fX11_rows_b15 h
section M_X11_rows
variable {p : Program} {l : Launch} {e : Env} {R : Room} {s : State} {m : MethodId} {args : Array Value} {below : List Frame} {meth : Method} {c : Code} {D : va_G} {G : gG} {A : Nat → Prop} {H0 : Heap} {n0 : Int} {x : Option vV × hH} {h : hH}
set_option maxRecDepth 100000 in
set_option maxHeartbeats 4000000 in
theorem oX11_rows_b15 {K : Int → Prop} (k0 : ∀ r, K (r) → x = (some (0, r), h)) {r : Int} (hr : fX11_rows_b15 h  = some r) (hk : K r) : Wq p l e R s m args below meth c D G A H0 true n0 M_X11_rows x 0 0 15 [] [] h := by
  unfold fX11_rows_b15 at hr
  refine r_iconst dX11_rows_15 (by decide) ?_
  refine r_goto dX11_rows_16 (tgt := 30) (by decide) ?_
  obtain rfl := Option.some.inj hr
  exact r_ret dX11_rows_30 rfl (Or.inl ⟨rfl, rfl⟩) (k0 _ hk) ⟨rfl, rfl⟩
set_option maxRecDepth 100000 in
set_option maxHeartbeats 4000000 in
theorem oX11_rows_b0 {a0 a1 : Int} {K : Int → Prop} (k0 : ∀ r, K (r) → x = (some (0, r), h)) {r : Int} (hr : fX11_rows h a0 a1 = some r) (hk : K r) : Wq p l e R s m args below meth c D G A H0 true n0 M_X11_rows x 0 0 0 [(0, (21, a0)), (1, (0, a1))] [] h := by
  unfold fX11_rows at hr
  refine r_iload_n dX11_rows_0 rfl 1 rfl (Or.inl rfl) ?_
  refine r_if_lt dX11_rows_1 (tgt := 15) (by decide) (fun hc => ?_) (fun hc => ?_)
  · have hr := ifp hr hc
    refine r_sub [] (lv' := []) rfl ?_
    exact oX11_rows_b15 (K := K) (fun r z => k0 r z) hr hk
  · have hr := ifn hr hc
    refine r_iload_n dX11_rows_4 rfl 1 rfl (Or.inl rfl) ?_
    refine r_aload_n dX11_rows_5 rfl 0 rfl (nl rfl) ?_
    refine r_get 11 1 (o := a0) (w := (14, h a0 1)) (T := TX11) (ref := "FollowingRefs") rfl (by decide) rfl (by decide) inlX11 (wsl_1 _ (List.mem_of_getElem? (i := 20) rfl)) rfl dX11_rows_6 rfl ?_
    refine r_get 4 0 (o := h a0 1) (w := (0, h (h a0 1) 0)) (T := TX4) (ref := "FollowingRefs$Schema") rfl (by decide) rfl (by decide) inlX4 (wsl_52 _ (List.mem_of_getElem? (i := 22) rfl)) rfl dX11_rows_9 rfl ?_
    refine r_icmp_lt dX11_rows_12 (tgt := 19) (by decide) (fun hc => ?_) (fun hc => ?_)
    · have hr := ifp hr hc
      refine r_aload_n dX11_rows_19 rfl 0 rfl (nl rfl) ?_
      refine r_get 11 2 (o := a0) (w := (18, h a0 2)) (T := TX11) (ref := "FollowingRefs") rfl (by decide) rfl (by decide) inlX11 (wsl_2 _ (List.mem_of_getElem? (i := 0) rfl)) rfl dX11_rows_20 rfl ?_
      refine r_get 8 0 (o := h a0 2) (w := (13, h (h a0 2) 0)) (T := TX8) (ref := "FollowingRefs$State") rfl (by decide) rfl (by decide) inlX8 (wsl_29 _ (List.mem_of_getElem? (i := 9) rfl)) rfl dX11_rows_23 rfl ?_
      refine r_iload_n dX11_rows_26 rfl 1 rfl (Or.inl rfl) ?_
      obtain ⟨r27, hg27, hr⟩ := bnd hr
      refine k_V (ci := 3) (o := h (h a0 2) 0) (T := TX3) (as := [(0, a1)]) (rest := []) (X := (some (0, r27), h)) (oX3_countOf hg27) gX3_countOf rfl (by decide) rfl (wsl_52 _ (List.mem_of_getElem? (i := 23) rfl)) rfl dX11_rows_27 rfl ?_
      obtain rfl := Option.some.inj hr
      exact r_ret dX11_rows_30 rfl (Or.inl ⟨rfl, rfl⟩) (k0 _ hk) ⟨rfl, rfl⟩
    · have hr := ifn hr hc
      refine r_sub [] (lv' := []) rfl ?_
      exact oX11_rows_b15 (K := K) (fun r z => k0 r z) hr hk
end M_X11_rows
theorem oX11_rows {l : Launch} {D : va_G} {G : gG} {h : hH} {a0 a1 : Int} {r : Int} (hr : fX11_rows h a0 a1 = some r) : Ctr l D G true yX11_rows M_X11_rows [(21, a0), (0, a1)] h (some (0, r), h) :=
  Ctr_of (by decide) rfl (fun z => by cases z) (nl rfl) (fun {p e R s m args below meth c A H0} => by
    exact oX11_rows_b0 (K := fun z9 => z9 = r) (fun r9 z => by rw [z]) hr rfl)
/-! X11_row -/
theorem dX11_row_0 : decode cX11_row 0 = .ok (.iload_n 1, 1) := by decide +kernel
theorem dX11_row_1 : decode cX11_row 1 = .ok (.ifCond .lt 18, 3) := by decide +kernel
theorem dX11_row_4 : decode cX11_row 4 = .ok (.iload_n 1, 1) := by decide +kernel
theorem dX11_row_5 : decode cX11_row 5 = .ok (.aload_n 0, 1) := by decide +kernel
theorem dX11_row_6 : decode cX11_row 6 = .ok (.getfield 19, 3) := by decide +kernel
theorem dX11_row_9 : decode cX11_row 9 = .ok (.getfield 228, 3) := by decide +kernel
theorem dX11_row_12 : decode cX11_row 12 = .ok (.if_icmp .ge 7, 3) := by decide +kernel
theorem dX11_row_15 : decode cX11_row 15 = .ok (.iload_n 2, 1) := by decide +kernel
theorem dX11_row_16 : decode cX11_row 16 = .ok (.ifCond .ge 7, 3) := by decide +kernel
theorem dX11_row_19 : decode cX11_row 19 = .ok (.iconst (-1), 1) := by decide +kernel
theorem dX11_row_20 : decode cX11_row 20 = .ok (.goto 15, 3) := by decide +kernel
theorem dX11_row_23 : decode cX11_row 23 = .ok (.aload_n 0, 1) := by decide +kernel
theorem dX11_row_24 : decode cX11_row 24 = .ok (.getfield 26, 3) := by decide +kernel
theorem dX11_row_27 : decode cX11_row 27 = .ok (.getfield 152, 3) := by decide +kernel
theorem dX11_row_30 : decode cX11_row 30 = .ok (.iload_n 1, 1) := by decide +kernel
theorem dX11_row_31 : decode cX11_row 31 = .ok (.iload_n 2, 1) := by decide +kernel
theorem dX11_row_32 : decode cX11_row 32 = .ok (.invokevirtual 235, 3) := by decide +kernel
theorem dX11_row_35 : decode cX11_row 35 = .ok (.ireturn, 1) := by decide +kernel
abbrev M_X11_row : mM := (cX11_row, 3, RX11, some .int, false, 2, 45, 0, 0)
theorem gX11_row : cI yX11_row M_X11_row 2 := ⟨(wsl_53 _ (List.mem_of_getElem? (i := 12) rfl)), (wsl_53 _ (List.mem_of_getElem? (i := 13) rfl)), (wsl_1 _ (List.mem_of_getElem? (i := 2) rfl)), (wsl_53 _ (List.mem_of_getElem? (i := 14) rfl)), by decide +kernel⟩
noncomputable def fX11_row_b19 (h : hH) : Option (Int) :=
  some (-1)
noncomputable def fX11_row (h : hH) (a0 a1 a2 : Int) : Option (Int) :=
  if a1 < 0 then
    fX11_row_b19 h
  else
    if a1 < h (h a0 1) 0 then
      if a2 < 0 then
        fX11_row_b19 h
      else
        (fX3_numberOf h (h (h a0 2) 0) a1 a2).bind fun r32 =>
        some r32
    else
      fX11_row_b19 h
section M_X11_row
variable {p : Program} {l : Launch} {e : Env} {R : Room} {s : State} {m : MethodId} {args : Array Value} {below : List Frame} {meth : Method} {c : Code} {D : va_G} {G : gG} {A : Nat → Prop} {H0 : Heap} {n0 : Int} {x : Option vV × hH} {h : hH}
set_option maxRecDepth 100000 in
set_option maxHeartbeats 4000000 in
theorem oX11_row_b19 {K : Int → Prop} (k0 : ∀ r, K (r) → x = (some (0, r), h)) {r : Int} (hr : fX11_row_b19 h  = some r) (hk : K r) : Wq p l e R s m args below meth c D G A H0 true n0 M_X11_row x 0 0 19 [] [] h := by
  unfold fX11_row_b19 at hr
  refine r_iconst dX11_row_19 (by decide) ?_
  refine r_goto dX11_row_20 (tgt := 35) (by decide) ?_
  obtain rfl := Option.some.inj hr
  exact r_ret dX11_row_35 rfl (Or.inl ⟨rfl, rfl⟩) (k0 _ hk) ⟨rfl, rfl⟩
set_option maxRecDepth 100000 in
set_option maxHeartbeats 4000000 in
theorem oX11_row_b0 {a0 a1 a2 : Int} {K : Int → Prop} (k0 : ∀ r, K (r) → x = (some (0, r), h)) {r : Int} (hr : fX11_row h a0 a1 a2 = some r) (hk : K r) : Wq p l e R s m args below meth c D G A H0 true n0 M_X11_row x 0 0 0 [(0, (21, a0)), (1, (0, a1)), (2, (0, a2))] [] h := by
  unfold fX11_row at hr
  refine r_iload_n dX11_row_0 rfl 1 rfl (Or.inl rfl) ?_
  refine r_if_lt dX11_row_1 (tgt := 19) (by decide) (fun hc => ?_) (fun hc => ?_)
  · have hr := ifp hr hc
    refine r_sub [] (lv' := []) rfl ?_
    exact oX11_row_b19 (K := K) (fun r z => k0 r z) hr hk
  · have hr := ifn hr hc
    refine r_iload_n dX11_row_4 rfl 1 rfl (Or.inl rfl) ?_
    refine r_aload_n dX11_row_5 rfl 0 rfl (nl rfl) ?_
    refine r_get 11 1 (o := a0) (w := (14, h a0 1)) (T := TX11) (ref := "FollowingRefs") rfl (by decide) rfl (by decide) inlX11 (wsl_1 _ (List.mem_of_getElem? (i := 20) rfl)) rfl dX11_row_6 rfl ?_
    refine r_get 4 0 (o := h a0 1) (w := (0, h (h a0 1) 0)) (T := TX4) (ref := "FollowingRefs$Schema") rfl (by decide) rfl (by decide) inlX4 (wsl_52 _ (List.mem_of_getElem? (i := 22) rfl)) rfl dX11_row_9 rfl ?_
    refine r_icmp_ge dX11_row_12 (tgt := 19) (by decide) (fun hc => ?_) (fun hc => ?_)
    · have hr := ifn hr hc
      refine r_sub [] (lv' := []) rfl ?_
      exact oX11_row_b19 (K := K) (fun r z => k0 r z) hr hk
    · have hr := ifp hr hc
      refine r_iload_n dX11_row_15 rfl 2 rfl (Or.inl rfl) ?_
      refine r_if_ge dX11_row_16 (tgt := 23) (by decide) (fun hc => ?_) (fun hc => ?_)
      · have hr := ifn hr hc
        refine r_aload_n dX11_row_23 rfl 0 rfl (nl rfl) ?_
        refine r_get 11 2 (o := a0) (w := (18, h a0 2)) (T := TX11) (ref := "FollowingRefs") rfl (by decide) rfl (by decide) inlX11 (wsl_2 _ (List.mem_of_getElem? (i := 0) rfl)) rfl dX11_row_24 rfl ?_
        refine r_get 8 0 (o := h a0 2) (w := (13, h (h a0 2) 0)) (T := TX8) (ref := "FollowingRefs$State") rfl (by decide) rfl (by decide) inlX8 (wsl_29 _ (List.mem_of_getElem? (i := 9) rfl)) rfl dX11_row_27 rfl ?_
        refine r_iload_n dX11_row_30 rfl 1 rfl (Or.inl rfl) ?_
        refine r_iload_n dX11_row_31 rfl 2 rfl (Or.inl rfl) ?_
        obtain ⟨r32, hg32, hr⟩ := bnd hr
        refine k_V (ci := 3) (o := h (h a0 2) 0) (T := TX3) (as := [(0, a1), (0, a2)]) (rest := []) (X := (some (0, r32), h)) (oX3_numberOf hg32) gX3_numberOf rfl (by decide) rfl (wsl_53 _ (List.mem_of_getElem? (i := 15) rfl)) rfl dX11_row_32 rfl ?_
        obtain rfl := Option.some.inj hr
        exact r_ret dX11_row_35 rfl (Or.inl ⟨rfl, rfl⟩) (k0 _ hk) ⟨rfl, rfl⟩
      · have hr := ifp hr hc
        refine r_sub [] (lv' := []) rfl ?_
        exact oX11_row_b19 (K := K) (fun r z => k0 r z) hr hk
end M_X11_row
theorem oX11_row {l : Launch} {D : va_G} {G : gG} {h : hH} {a0 a1 a2 : Int} {r : Int} (hr : fX11_row h a0 a1 a2 = some r) : Ctr l D G true yX11_row M_X11_row [(21, a0), (0, a1), (0, a2)] h (some (0, r), h) :=
  Ctr_of (by decide) rfl (fun z => by cases z) (nl rfl) (fun {p e R s m args below meth c A H0} => by
    exact oX11_row_b0 (K := fun z9 => z9 = r) (fun r9 z => by rw [z]) hr rfl)
/-! X11_tableOf -/
theorem dX11_tableOf_0 : decode cX11_tableOf 0 = .ok (.aload_n 0, 1) := by decide +kernel
theorem dX11_tableOf_1 : decode cX11_tableOf 1 = .ok (.getfield 26, 3) := by decide +kernel
theorem dX11_tableOf_4 : decode cX11_tableOf 4 = .ok (.getfield 152, 3) := by decide +kernel
theorem dX11_tableOf_7 : decode cX11_tableOf 7 = .ok (.aload_n 0, 1) := by decide +kernel
theorem dX11_tableOf_8 : decode cX11_tableOf 8 = .ok (.getfield 26, 3) := by decide +kernel
theorem dX11_tableOf_11 : decode cX11_tableOf 11 = .ok (.getfield 152, 3) := by decide +kernel
theorem dX11_tableOf_14 : decode cX11_tableOf 14 = .ok (.iload_n 1, 1) := by decide +kernel
theorem dX11_tableOf_15 : decode cX11_tableOf 15 = .ok (.invokevirtual 238, 3) := by decide +kernel
theorem dX11_tableOf_18 : decode cX11_tableOf 18 = .ok (.invokevirtual 241, 3) := by decide +kernel
theorem dX11_tableOf_21 : decode cX11_tableOf 21 = .ok (.ireturn, 1) := by decide +kernel
abbrev M_X11_tableOf : mM := (cX11_tableOf, 2, RX11, some .int, false, 2, 43, 0, 0)
theorem gX11_tableOf : cI yX11_tableOf M_X11_tableOf 1 := ⟨(wsl_54 _ (List.mem_of_getElem? (i := 0) rfl)), (wsl_54 _ (List.mem_of_getElem? (i := 1) rfl)), (wsl_1 _ (List.mem_of_getElem? (i := 2) rfl)), (wsl_54 _ (List.mem_of_getElem? (i := 2) rfl)), by decide +kernel⟩
noncomputable def fX11_tableOf (h : hH) (a0 a1 : Int) : Option (Int) :=
  (fX3_slotOf h (h (h a0 2) 0) a1).bind fun r15 =>
  (fX3_tableAt h (h (h a0 2) 0) r15).bind fun r18 =>
  some r18
section M_X11_tableOf
variable {p : Program} {l : Launch} {e : Env} {R : Room} {s : State} {m : MethodId} {args : Array Value} {below : List Frame} {meth : Method} {c : Code} {D : va_G} {G : gG} {A : Nat → Prop} {H0 : Heap} {n0 : Int} {x : Option vV × hH} {h : hH}
set_option maxRecDepth 100000 in
set_option maxHeartbeats 4000000 in
theorem oX11_tableOf_b0 {a0 a1 : Int} {K : Int → Prop} (k0 : ∀ r, K (r) → x = (some (0, r), h)) {r : Int} (hr : fX11_tableOf h a0 a1 = some r) (hk : K r) : Wq p l e R s m args below meth c D G A H0 true n0 M_X11_tableOf x 0 0 0 [(0, (21, a0)), (1, (0, a1))] [] h := by
  unfold fX11_tableOf at hr
  refine r_aload_n dX11_tableOf_0 rfl 0 rfl (nl rfl) ?_
  refine r_get 11 2 (o := a0) (w := (18, h a0 2)) (T := TX11) (ref := "FollowingRefs") rfl (by decide) rfl (by decide) inlX11 (wsl_2 _ (List.mem_of_getElem? (i := 0) rfl)) rfl dX11_tableOf_1 rfl ?_
  refine r_get 8 0 (o := h a0 2) (w := (13, h (h a0 2) 0)) (T := TX8) (ref := "FollowingRefs$State") rfl (by decide) rfl (by decide) inlX8 (wsl_29 _ (List.mem_of_getElem? (i := 9) rfl)) rfl dX11_tableOf_4 rfl ?_
  refine r_aload_n dX11_tableOf_7 rfl 0 rfl (nl rfl) ?_
  refine r_get 11 2 (o := a0) (w := (18, h a0 2)) (T := TX11) (ref := "FollowingRefs") rfl (by decide) rfl (by decide) inlX11 (wsl_2 _ (List.mem_of_getElem? (i := 0) rfl)) rfl dX11_tableOf_8 rfl ?_
  refine r_get 8 0 (o := h a0 2) (w := (13, h (h a0 2) 0)) (T := TX8) (ref := "FollowingRefs$State") rfl (by decide) rfl (by decide) inlX8 (wsl_29 _ (List.mem_of_getElem? (i := 9) rfl)) rfl dX11_tableOf_11 rfl ?_
  refine r_iload_n dX11_tableOf_14 rfl 1 rfl (Or.inl rfl) ?_
  obtain ⟨r15, hg15, hr⟩ := bnd hr
  refine k_V (ci := 3) (o := h (h a0 2) 0) (T := TX3) (as := [(0, a1)]) (rest := [(13, h (h a0 2) 0)]) (X := (some (0, r15), h)) (oX3_slotOf hg15) gX3_slotOf rfl (by decide) rfl (wsl_54 _ (List.mem_of_getElem? (i := 3) rfl)) rfl dX11_tableOf_15 rfl ?_
  obtain ⟨r18, hg18, hr⟩ := bnd hr
  refine k_V (ci := 3) (o := h (h a0 2) 0) (T := TX3) (as := [(0, r15)]) (rest := []) (X := (some (0, r18), h)) (oX3_tableAt hg18) gX3_tableAt rfl (by decide) rfl (wsl_54 _ (List.mem_of_getElem? (i := 7) rfl)) rfl dX11_tableOf_18 rfl ?_
  obtain rfl := Option.some.inj hr
  exact r_ret dX11_tableOf_21 rfl (Or.inl ⟨rfl, rfl⟩) (k0 _ hk) ⟨rfl, rfl⟩
end M_X11_tableOf
theorem oX11_tableOf {l : Launch} {D : va_G} {G : gG} {h : hH} {a0 a1 : Int} {r : Int} (hr : fX11_tableOf h a0 a1 = some r) : Ctr l D G true yX11_tableOf M_X11_tableOf [(21, a0), (0, a1)] h (some (0, r), h) :=
  Ctr_of (by decide) rfl (fun z => by cases z) (nl rfl) (fun {p e R s m args below meth c A H0} => by
    exact oX11_tableOf_b0 (K := fun z9 => z9 = r) (fun r9 z => by rw [z]) hr rfl)
/-! X11_refers -/
theorem dX11_refers_0 : decode cX11_refers 0 = .ok (.aload_n 0, 1) := by decide +kernel
theorem dX11_refers_1 : decode cX11_refers 1 = .ok (.getfield 26, 3) := by decide +kernel
theorem dX11_refers_4 : decode cX11_refers 4 = .ok (.getfield 152, 3) := by decide +kernel
theorem dX11_refers_7 : decode cX11_refers 7 = .ok (.iload_n 1, 1) := by decide +kernel
theorem dX11_refers_8 : decode cX11_refers 8 = .ok (.invokevirtual 238, 3) := by decide +kernel
theorem dX11_refers_11 : decode cX11_refers 11 = .ok (.istore_n 3, 1) := by decide +kernel
theorem dX11_refers_12 : decode cX11_refers 12 = .ok (.iload_n 3, 1) := by decide +kernel
theorem dX11_refers_13 : decode cX11_refers 13 = .ok (.iconst (-1), 1) := by decide +kernel
theorem dX11_refers_14 : decode cX11_refers 14 = .ok (.if_icmp .eq 18, 3) := by decide +kernel
theorem dX11_refers_17 : decode cX11_refers 17 = .ok (.iload_n 2, 1) := by decide +kernel
theorem dX11_refers_18 : decode cX11_refers 18 = .ok (.ifCond .lt 14, 3) := by decide +kernel
theorem dX11_refers_21 : decode cX11_refers 21 = .ok (.iload_n 2, 1) := by decide +kernel
theorem dX11_refers_22 : decode cX11_refers 22 = .ok (.aload_n 0, 1) := by decide +kernel
theorem dX11_refers_23 : decode cX11_refers 23 = .ok (.getfield 19, 3) := by decide +kernel
theorem dX11_refers_26 : decode cX11_refers 26 = .ok (.getfield 253, 3) := by decide +kernel
theorem dX11_refers_29 : decode cX11_refers 29 = .ok (.if_icmp .lt 5, 3) := by decide +kernel
theorem dX11_refers_32 : decode cX11_refers 32 = .ok (.iconst (-1), 1) := by decide +kernel
theorem dX11_refers_33 : decode cX11_refers 33 = .ok (.ireturn, 1) := by decide +kernel
theorem dX11_refers_34 : decode cX11_refers 34 = .ok (.aload_n 0, 1) := by decide +kernel
theorem dX11_refers_35 : decode cX11_refers 35 = .ok (.getfield 26, 3) := by decide +kernel
theorem dX11_refers_38 : decode cX11_refers 38 = .ok (.getfield 152, 3) := by decide +kernel
theorem dX11_refers_41 : decode cX11_refers 41 = .ok (.aload_n 0, 1) := by decide +kernel
theorem dX11_refers_42 : decode cX11_refers 42 = .ok (.getfield 26, 3) := by decide +kernel
theorem dX11_refers_45 : decode cX11_refers 45 = .ok (.getfield 152, 3) := by decide +kernel
theorem dX11_refers_48 : decode cX11_refers 48 = .ok (.aload_n 0, 1) := by decide +kernel
theorem dX11_refers_49 : decode cX11_refers 49 = .ok (.getfield 19, 3) := by decide +kernel
theorem dX11_refers_52 : decode cX11_refers 52 = .ok (.iload_n 3, 1) := by decide +kernel
theorem dX11_refers_53 : decode cX11_refers 53 = .ok (.iload_n 2, 1) := by decide +kernel
theorem dX11_refers_54 : decode cX11_refers 54 = .ok (.invokevirtual 256, 3) := by decide +kernel
theorem dX11_refers_57 : decode cX11_refers 57 = .ok (.invokevirtual 260, 3) := by decide +kernel
theorem dX11_refers_60 : decode cX11_refers 60 = .ok (.ireturn, 1) := by decide +kernel
abbrev M_X11_refers : mM := (cX11_refers, 4, RX11, some .int, false, 3, 74, 0, 0)
theorem gX11_refers : cI yX11_refers M_X11_refers 2 := ⟨(wsl_55 _ (List.mem_of_getElem? (i := 22) rfl)), (wsl_55 _ (List.mem_of_getElem? (i := 23) rfl)), (wsl_1 _ (List.mem_of_getElem? (i := 2) rfl)), (wsl_56 _ (List.mem_of_getElem? (i := 0) rfl)), by decide +kernel⟩
noncomputable def fX11_refers (h : hH) (a0 a1 a2 : Int) : Option (Int) :=
  (fX3_slotOf h (h (h a0 2) 0) a1).bind fun r8 =>
  if r8 = -1 then
    some (-1)
  else
    if a2 < 0 then
      some (-1)
    else
      if a2 < h (h a0 1) 2 then
        (fX3_aim h (h (h a0 2) 0) (h a0 1) r8 a2).bind fun r54 =>
        (fX3_numberAt h (h (h a0 2) 0) r54).bind fun r57 =>
        some r57
      else
        some (-1)
section M_X11_refers
variable {p : Program} {l : Launch} {e : Env} {R : Room} {s : State} {m : MethodId} {args : Array Value} {below : List Frame} {meth : Method} {c : Code} {D : va_G} {G : gG} {A : Nat → Prop} {H0 : Heap} {n0 : Int} {x : Option vV × hH} {h : hH}
set_option maxRecDepth 100000 in
set_option maxHeartbeats 4000000 in
theorem oX11_refers_b0 {a0 a1 a2 : Int} {K : Int → Prop} (k0 : ∀ r, K (r) → x = (some (0, r), h)) {r : Int} (hr : fX11_refers h a0 a1 a2 = some r) (hk : K r) : Wq p l e R s m args below meth c D G A H0 true n0 M_X11_refers x 0 0 0 [(0, (21, a0)), (1, (0, a1)), (2, (0, a2))] [] h := by
  unfold fX11_refers at hr
  refine r_aload_n dX11_refers_0 rfl 0 rfl (nl rfl) ?_
  refine r_get 11 2 (o := a0) (w := (18, h a0 2)) (T := TX11) (ref := "FollowingRefs") rfl (by decide) rfl (by decide) inlX11 (wsl_2 _ (List.mem_of_getElem? (i := 0) rfl)) rfl dX11_refers_1 rfl ?_
  refine r_get 8 0 (o := h a0 2) (w := (13, h (h a0 2) 0)) (T := TX8) (ref := "FollowingRefs$State") rfl (by decide) rfl (by decide) inlX8 (wsl_29 _ (List.mem_of_getElem? (i := 9) rfl)) rfl dX11_refers_4 rfl ?_
  refine r_iload_n dX11_refers_7 rfl 1 rfl (Or.inl rfl) ?_
  obtain ⟨r8, hg8, hr⟩ := bnd hr
  refine k_V (ci := 3) (o := h (h a0 2) 0) (T := TX3) (as := [(0, a1)]) (rest := []) (X := (some (0, r8), h)) (oX3_slotOf hg8) gX3_slotOf rfl (by decide) rfl (wsl_54 _ (List.mem_of_getElem? (i := 3) rfl)) rfl dX11_refers_8 rfl ?_
  refine r_istore_n dX11_refers_11 rfl (Or.inl rfl) (by decide) (lv' := [(3, (0, r8)), (0, (21, a0)), (1, (0, a1)), (2, (0, a2))]) rfl ?_
  refine r_iload_n dX11_refers_12 rfl 0 rfl (Or.inl rfl) ?_
  refine r_iconst dX11_refers_13 (by decide) ?_
  refine r_icmp_eq dX11_refers_14 (tgt := 32) (by decide) (fun hc => ?_) (fun hc => ?_)
  · have hr := ifp hr hc
    refine r_iconst dX11_refers_32 (by decide) ?_
    obtain rfl := Option.some.inj hr
    exact r_ret dX11_refers_33 rfl (Or.inl ⟨rfl, rfl⟩) (k0 _ hk) ⟨rfl, rfl⟩
  · have hr := ifn hr hc
    refine r_iload_n dX11_refers_17 rfl 3 rfl (Or.inl rfl) ?_
    refine r_if_lt dX11_refers_18 (tgt := 32) (by decide) (fun hc => ?_) (fun hc => ?_)
    · have hr := ifp hr hc
      refine r_iconst dX11_refers_32 (by decide) ?_
      obtain rfl := Option.some.inj hr
      exact r_ret dX11_refers_33 rfl (Or.inl ⟨rfl, rfl⟩) (k0 _ hk) ⟨rfl, rfl⟩
    · have hr := ifn hr hc
      refine r_iload_n dX11_refers_21 rfl 3 rfl (Or.inl rfl) ?_
      refine r_aload_n dX11_refers_22 rfl 1 rfl (nl rfl) ?_
      refine r_get 11 1 (o := a0) (w := (14, h a0 1)) (T := TX11) (ref := "FollowingRefs") rfl (by decide) rfl (by decide) inlX11 (wsl_1 _ (List.mem_of_getElem? (i := 20) rfl)) rfl dX11_refers_23 rfl ?_
      refine r_get 4 2 (o := h a0 1) (w := (0, h (h a0 1) 2)) (T := TX4) (ref := "FollowingRefs$Schema") rfl (by decide) rfl (by decide) inlX4 (wsl_56 _ (List.mem_of_getElem? (i := 1) rfl)) rfl dX11_refers_26 rfl ?_
      refine r_icmp_lt dX11_refers_29 (tgt := 34) (by decide) (fun hc => ?_) (fun hc => ?_)
      · have hr := ifp hr hc
        refine r_aload_n dX11_refers_34 rfl 1 rfl (nl rfl) ?_
        refine r_get 11 2 (o := a0) (w := (18, h a0 2)) (T := TX11) (ref := "FollowingRefs") rfl (by decide) rfl (by decide) inlX11 (wsl_2 _ (List.mem_of_getElem? (i := 0) rfl)) rfl dX11_refers_35 rfl ?_
        refine r_get 8 0 (o := h a0 2) (w := (13, h (h a0 2) 0)) (T := TX8) (ref := "FollowingRefs$State") rfl (by decide) rfl (by decide) inlX8 (wsl_29 _ (List.mem_of_getElem? (i := 9) rfl)) rfl dX11_refers_38 rfl ?_
        refine r_aload_n dX11_refers_41 rfl 1 rfl (nl rfl) ?_
        refine r_get 11 2 (o := a0) (w := (18, h a0 2)) (T := TX11) (ref := "FollowingRefs") rfl (by decide) rfl (by decide) inlX11 (wsl_2 _ (List.mem_of_getElem? (i := 0) rfl)) rfl dX11_refers_42 rfl ?_
        refine r_get 8 0 (o := h a0 2) (w := (13, h (h a0 2) 0)) (T := TX8) (ref := "FollowingRefs$State") rfl (by decide) rfl (by decide) inlX8 (wsl_29 _ (List.mem_of_getElem? (i := 9) rfl)) rfl dX11_refers_45 rfl ?_
        refine r_aload_n dX11_refers_48 rfl 1 rfl (nl rfl) ?_
        refine r_get 11 1 (o := a0) (w := (14, h a0 1)) (T := TX11) (ref := "FollowingRefs") rfl (by decide) rfl (by decide) inlX11 (wsl_1 _ (List.mem_of_getElem? (i := 20) rfl)) rfl dX11_refers_49 rfl ?_
        refine r_iload_n dX11_refers_52 rfl 0 rfl (Or.inl rfl) ?_
        refine r_iload_n dX11_refers_53 rfl 3 rfl (Or.inl rfl) ?_
        obtain ⟨r54, hg54, hr⟩ := bnd hr
        refine k_V (ci := 3) (o := h (h a0 2) 0) (T := TX3) (as := [(14, h a0 1), (0, r8), (0, a2)]) (rest := [(13, h (h a0 2) 0)]) (X := (some (0, r54), h)) (oX3_aim hg54) gX3_aim rfl (by decide) rfl (wsl_56 _ (List.mem_of_getElem? (i := 2) rfl)) rfl dX11_refers_54 rfl ?_
        obtain ⟨r57, hg57, hr⟩ := bnd hr
        refine k_V (ci := 3) (o := h (h a0 2) 0) (T := TX3) (as := [(0, r54)]) (rest := []) (X := (some (0, r57), h)) (oX3_numberAt hg57) gX3_numberAt rfl (by decide) rfl (wsl_56 _ (List.mem_of_getElem? (i := 3) rfl)) rfl dX11_refers_57 rfl ?_
        obtain rfl := Option.some.inj hr
        exact r_ret dX11_refers_60 rfl (Or.inl ⟨rfl, rfl⟩) (k0 _ hk) ⟨rfl, rfl⟩
      · have hr := ifn hr hc
        refine r_iconst dX11_refers_32 (by decide) ?_
        obtain rfl := Option.some.inj hr
        exact r_ret dX11_refers_33 rfl (Or.inl ⟨rfl, rfl⟩) (k0 _ hk) ⟨rfl, rfl⟩
end M_X11_refers
theorem oX11_refers {l : Launch} {D : va_G} {G : gG} {h : hH} {a0 a1 a2 : Int} {r : Int} (hr : fX11_refers h a0 a1 a2 = some r) : Ctr l D G true yX11_refers M_X11_refers [(21, a0), (0, a1), (0, a2)] h (some (0, r), h) :=
  Ctr_of (by decide) rfl (fun z => by cases z) (nl rfl) (fun {p e R s m args below meth c A H0} => by
    exact oX11_refers_b0 (K := fun z9 => z9 = r) (fun r9 z => by rw [z]) hr rfl)
/-! X11_referred -/
theorem dX11_referred_0 : decode cX11_referred 0 = .ok (.aload_n 0, 1) := by decide +kernel
theorem dX11_referred_1 : decode cX11_referred 1 = .ok (.getfield 26, 3) := by decide +kernel
theorem dX11_referred_4 : decode cX11_referred 4 = .ok (.getfield 152, 3) := by decide +kernel
theorem dX11_referred_7 : decode cX11_referred 7 = .ok (.iload_n 1, 1) := by decide +kernel
theorem dX11_referred_8 : decode cX11_referred 8 = .ok (.invokevirtual 238, 3) := by decide +kernel
theorem dX11_referred_11 : decode cX11_referred 11 = .ok (.istore_n 2, 1) := by decide +kernel
theorem dX11_referred_12 : decode cX11_referred 12 = .ok (.iload_n 2, 1) := by decide +kernel
theorem dX11_referred_13 : decode cX11_referred 13 = .ok (.iconst (-1), 1) := by decide +kernel
theorem dX11_referred_14 : decode cX11_referred 14 = .ok (.if_icmp .ne 7, 3) := by decide +kernel
theorem dX11_referred_17 : decode cX11_referred 17 = .ok (.iconst (-1), 1) := by decide +kernel
theorem dX11_referred_18 : decode cX11_referred 18 = .ok (.goto 18, 3) := by decide +kernel
theorem dX11_referred_21 : decode cX11_referred 21 = .ok (.aload_n 0, 1) := by decide +kernel
theorem dX11_referred_22 : decode cX11_referred 22 = .ok (.getfield 26, 3) := by decide +kernel
theorem dX11_referred_25 : decode cX11_referred 25 = .ok (.getfield 152, 3) := by decide +kernel
theorem dX11_referred_28 : decode cX11_referred 28 = .ok (.aload_n 0, 1) := by decide +kernel
theorem dX11_referred_29 : decode cX11_referred 29 = .ok (.getfield 19, 3) := by decide +kernel
theorem dX11_referred_32 : decode cX11_referred 32 = .ok (.iload_n 2, 1) := by decide +kernel
theorem dX11_referred_33 : decode cX11_referred 33 = .ok (.invokevirtual 263, 3) := by decide +kernel
theorem dX11_referred_36 : decode cX11_referred 36 = .ok (.ireturn, 1) := by decide +kernel
abbrev M_X11_referred : mM := (cX11_referred, 3, RX11, some .int, false, 4, 99, 0, 0)
theorem gX11_referred : cI yX11_referred M_X11_referred 1 := ⟨(wsl_56 _ (List.mem_of_getElem? (i := 9) rfl)), (wsl_56 _ (List.mem_of_getElem? (i := 10) rfl)), (wsl_1 _ (List.mem_of_getElem? (i := 2) rfl)), (wsl_56 _ (List.mem_of_getElem? (i := 11) rfl)), by decide +kernel⟩
noncomputable def fX11_referred (h : hH) (a0 a1 : Int) : Option (Int) :=
  (fX3_slotOf h (h (h a0 2) 0) a1).bind fun r8 =>
  if r8 = -1 then
    some (-1)
  else
    (fX3_referring h (h (h a0 2) 0) (h a0 1) r8).bind fun r33 =>
    some r33
section M_X11_referred
variable {p : Program} {l : Launch} {e : Env} {R : Room} {s : State} {m : MethodId} {args : Array Value} {below : List Frame} {meth : Method} {c : Code} {D : va_G} {G : gG} {A : Nat → Prop} {H0 : Heap} {n0 : Int} {x : Option vV × hH} {h : hH}
set_option maxRecDepth 100000 in
set_option maxHeartbeats 4000000 in
theorem oX11_referred_b0 {a0 a1 : Int} {K : Int → Prop} (k0 : ∀ r, K (r) → x = (some (0, r), h)) {r : Int} (hr : fX11_referred h a0 a1 = some r) (hk : K r) : Wq p l e R s m args below meth c D G A H0 true n0 M_X11_referred x 0 0 0 [(0, (21, a0)), (1, (0, a1))] [] h := by
  unfold fX11_referred at hr
  refine r_aload_n dX11_referred_0 rfl 0 rfl (nl rfl) ?_
  refine r_get 11 2 (o := a0) (w := (18, h a0 2)) (T := TX11) (ref := "FollowingRefs") rfl (by decide) rfl (by decide) inlX11 (wsl_2 _ (List.mem_of_getElem? (i := 0) rfl)) rfl dX11_referred_1 rfl ?_
  refine r_get 8 0 (o := h a0 2) (w := (13, h (h a0 2) 0)) (T := TX8) (ref := "FollowingRefs$State") rfl (by decide) rfl (by decide) inlX8 (wsl_29 _ (List.mem_of_getElem? (i := 9) rfl)) rfl dX11_referred_4 rfl ?_
  refine r_iload_n dX11_referred_7 rfl 1 rfl (Or.inl rfl) ?_
  obtain ⟨r8, hg8, hr⟩ := bnd hr
  refine k_V (ci := 3) (o := h (h a0 2) 0) (T := TX3) (as := [(0, a1)]) (rest := []) (X := (some (0, r8), h)) (oX3_slotOf hg8) gX3_slotOf rfl (by decide) rfl (wsl_54 _ (List.mem_of_getElem? (i := 3) rfl)) rfl dX11_referred_8 rfl ?_
  refine r_istore_n dX11_referred_11 rfl (Or.inl rfl) (by decide) (lv' := [(2, (0, r8)), (0, (21, a0)), (1, (0, a1))]) rfl ?_
  refine r_iload_n dX11_referred_12 rfl 0 rfl (Or.inl rfl) ?_
  refine r_iconst dX11_referred_13 (by decide) ?_
  refine r_icmp_ne dX11_referred_14 (tgt := 21) (by decide) (fun hc => ?_) (fun hc => ?_)
  · have hr := ifn hr hc
    refine r_aload_n dX11_referred_21 rfl 1 rfl (nl rfl) ?_
    refine r_get 11 2 (o := a0) (w := (18, h a0 2)) (T := TX11) (ref := "FollowingRefs") rfl (by decide) rfl (by decide) inlX11 (wsl_2 _ (List.mem_of_getElem? (i := 0) rfl)) rfl dX11_referred_22 rfl ?_
    refine r_get 8 0 (o := h a0 2) (w := (13, h (h a0 2) 0)) (T := TX8) (ref := "FollowingRefs$State") rfl (by decide) rfl (by decide) inlX8 (wsl_29 _ (List.mem_of_getElem? (i := 9) rfl)) rfl dX11_referred_25 rfl ?_
    refine r_aload_n dX11_referred_28 rfl 1 rfl (nl rfl) ?_
    refine r_get 11 1 (o := a0) (w := (14, h a0 1)) (T := TX11) (ref := "FollowingRefs") rfl (by decide) rfl (by decide) inlX11 (wsl_1 _ (List.mem_of_getElem? (i := 20) rfl)) rfl dX11_referred_29 rfl ?_
    refine r_iload_n dX11_referred_32 rfl 0 rfl (Or.inl rfl) ?_
    obtain ⟨r33, hg33, hr⟩ := bnd hr
    refine k_V (ci := 3) (o := h (h a0 2) 0) (T := TX3) (as := [(14, h a0 1), (0, r8)]) (rest := []) (X := (some (0, r33), h)) (oX3_referring hg33) gX3_referring rfl (by decide) rfl (wsl_56 _ (List.mem_of_getElem? (i := 12) rfl)) rfl dX11_referred_33 rfl ?_
    obtain rfl := Option.some.inj hr
    exact r_ret dX11_referred_36 rfl (Or.inl ⟨rfl, rfl⟩) (k0 _ hk) ⟨rfl, rfl⟩
  · have hr := ifp hr hc
    refine r_iconst dX11_referred_17 (by decide) ?_
    refine r_goto dX11_referred_18 (tgt := 36) (by decide) ?_
    obtain rfl := Option.some.inj hr
    exact r_ret dX11_referred_36 rfl (Or.inl ⟨rfl, rfl⟩) (k0 _ hk) ⟨rfl, rfl⟩
end M_X11_referred
theorem oX11_referred {l : Launch} {D : va_G} {G : gG} {h : hH} {a0 a1 : Int} {r : Int} (hr : fX11_referred h a0 a1 = some r) : Ctr l D G true yX11_referred M_X11_referred [(21, a0), (0, a1)] h (some (0, r), h) :=
  Ctr_of (by decide) rfl (fun z => by cases z) (nl rfl) (fun {p e R s m args below meth c A H0} => by
    exact oX11_referred_b0 (K := fun z9 => z9 = r) (fun r9 z => by rw [z]) hr rfl)
/-! X11_table -/
theorem dX11_table_0 : decode cX11_table 0 = .ok (.iload_n 1, 1) := by decide +kernel
theorem dX11_table_1 : decode cX11_table 1 = .ok (.ifCond .lt 14, 3) := by decide +kernel
theorem dX11_table_4 : decode cX11_table 4 = .ok (.iload_n 1, 1) := by decide +kernel
theorem dX11_table_5 : decode cX11_table 5 = .ok (.aload_n 0, 1) := by decide +kernel
theorem dX11_table_6 : decode cX11_table 6 = .ok (.getfield 19, 3) := by decide +kernel
theorem dX11_table_9 : decode cX11_table 9 = .ok (.getfield 228, 3) := by decide +kernel
theorem dX11_table_12 : decode cX11_table 12 = .ok (.if_icmp .lt 5, 3) := by decide +kernel
theorem dX11_table_15 : decode cX11_table 15 = .ok (.iconst (-1), 1) := by decide +kernel
theorem dX11_table_16 : decode cX11_table 16 = .ok (.ireturn, 1) := by decide +kernel
theorem dX11_table_17 : decode cX11_table 17 = .ok (.iload_n 2, 1) := by decide +kernel
theorem dX11_table_18 : decode cX11_table 18 = .ok (.tableswitch 81 0 4 #[34, 43, 52, 62, 72], 34) := by decide +kernel
theorem dX11_table_52 : decode cX11_table 52 = .ok (.aload_n 0, 1) := by decide +kernel
theorem dX11_table_53 : decode cX11_table 53 = .ok (.getfield 19, 3) := by decide +kernel
theorem dX11_table_56 : decode cX11_table 56 = .ok (.iload_n 1, 1) := by decide +kernel
theorem dX11_table_57 : decode cX11_table 57 = .ok (.invokevirtual 244, 3) := by decide +kernel
theorem dX11_table_60 : decode cX11_table 60 = .ok (.ireturn, 1) := by decide +kernel
theorem dX11_table_61 : decode cX11_table 61 = .ok (.aload_n 0, 1) := by decide +kernel
theorem dX11_table_62 : decode cX11_table 62 = .ok (.getfield 19, 3) := by decide +kernel
theorem dX11_table_65 : decode cX11_table 65 = .ok (.iload_n 1, 1) := by decide +kernel
theorem dX11_table_66 : decode cX11_table 66 = .ok (.invokevirtual 267, 3) := by decide +kernel
theorem dX11_table_69 : decode cX11_table 69 = .ok (.ireturn, 1) := by decide +kernel
theorem dX11_table_70 : decode cX11_table 70 = .ok (.aload_n 0, 1) := by decide +kernel
theorem dX11_table_71 : decode cX11_table 71 = .ok (.getfield 19, 3) := by decide +kernel
theorem dX11_table_74 : decode cX11_table 74 = .ok (.iconst 0, 1) := by decide +kernel
theorem dX11_table_75 : decode cX11_table 75 = .ok (.iload_n 1, 1) := by decide +kernel
theorem dX11_table_76 : decode cX11_table 76 = .ok (.invokevirtual 270, 3) := by decide +kernel
theorem dX11_table_79 : decode cX11_table 79 = .ok (.ireturn, 1) := by decide +kernel
theorem dX11_table_80 : decode cX11_table 80 = .ok (.aload_n 0, 1) := by decide +kernel
theorem dX11_table_81 : decode cX11_table 81 = .ok (.getfield 19, 3) := by decide +kernel
theorem dX11_table_84 : decode cX11_table 84 = .ok (.iconst 1, 1) := by decide +kernel
theorem dX11_table_85 : decode cX11_table 85 = .ok (.iload_n 1, 1) := by decide +kernel
theorem dX11_table_86 : decode cX11_table 86 = .ok (.invokevirtual 270, 3) := by decide +kernel
theorem dX11_table_89 : decode cX11_table 89 = .ok (.ireturn, 1) := by decide +kernel
theorem dX11_table_90 : decode cX11_table 90 = .ok (.aload_n 0, 1) := by decide +kernel
theorem dX11_table_91 : decode cX11_table 91 = .ok (.getfield 19, 3) := by decide +kernel
theorem dX11_table_94 : decode cX11_table 94 = .ok (.iload_n 1, 1) := by decide +kernel
theorem dX11_table_95 : decode cX11_table 95 = .ok (.invokevirtual 273, 3) := by decide +kernel
theorem dX11_table_98 : decode cX11_table 98 = .ok (.ireturn, 1) := by decide +kernel
theorem dX11_table_99 : decode cX11_table 99 = .ok (.iconst (-1), 1) := by decide +kernel
theorem dX11_table_100 : decode cX11_table 100 = .ok (.ireturn, 1) := by decide +kernel
abbrev M_X11_table : mM := (cX11_table, 3, RX11, some .int, false, 3, 68, 0, 0)
theorem gX11_table : cI yX11_table M_X11_table 2 := ⟨(wsl_57 _ (List.mem_of_getElem? (i := 3) rfl)), (wsl_57 _ (List.mem_of_getElem? (i := 4) rfl)), (wsl_1 _ (List.mem_of_getElem? (i := 2) rfl)), (wsl_57 _ (List.mem_of_getElem? (i := 5) rfl)), by decide +kernel⟩
noncomputable def fX11_table (h : hH) (a0 a1 a2 : Int) : Option (Int) :=
  if a1 < 0 then
    some (-1)
  else
    if a1 < h (h a0 1) 0 then
      if a2 = 0 then
        (fX4_width h (h a0 1) a1).bind fun r57 =>
        some r57
      else
        if a2 = 1 then
          (fX4_keysOf h (h a0 1) a1).bind fun r66 =>
          some r66
        else
          if a2 = 2 then
            (fX4_refsBy h (h a0 1) 0 a1).bind fun r76 =>
            some r76
          else
            if a2 = 3 then
              (fX4_refsBy h (h a0 1) 1 a1).bind fun r86 =>
              some r86
            else
              if a2 = 4 then
                (fX4_perils h (h a0 1) a1).bind fun r95 =>
                some r95
              else
                some (-1)
    else
      some (-1)
section M_X11_table
variable {p : Program} {l : Launch} {e : Env} {R : Room} {s : State} {m : MethodId} {args : Array Value} {below : List Frame} {meth : Method} {c : Code} {D : va_G} {G : gG} {A : Nat → Prop} {H0 : Heap} {n0 : Int} {x : Option vV × hH} {h : hH}
set_option maxRecDepth 100000 in
set_option maxHeartbeats 4000000 in
theorem oX11_table_b0 {a0 a1 a2 : Int} {K : Int → Prop} (k0 : ∀ r, K (r) → x = (some (0, r), h)) {r : Int} (hr : fX11_table h a0 a1 a2 = some r) (hk : K r) : Wq p l e R s m args below meth c D G A H0 true n0 M_X11_table x 0 0 0 [(0, (21, a0)), (1, (0, a1)), (2, (0, a2))] [] h := by
  unfold fX11_table at hr
  refine r_iload_n dX11_table_0 rfl 1 rfl (Or.inl rfl) ?_
  refine r_if_lt dX11_table_1 (tgt := 15) (by decide) (fun hc => ?_) (fun hc => ?_)
  · have hr := ifp hr hc
    refine r_iconst dX11_table_15 (by decide) ?_
    obtain rfl := Option.some.inj hr
    exact r_ret dX11_table_16 rfl (Or.inl ⟨rfl, rfl⟩) (k0 _ hk) ⟨rfl, rfl⟩
  · have hr := ifn hr hc
    refine r_iload_n dX11_table_4 rfl 1 rfl (Or.inl rfl) ?_
    refine r_aload_n dX11_table_5 rfl 0 rfl (nl rfl) ?_
    refine r_get 11 1 (o := a0) (w := (14, h a0 1)) (T := TX11) (ref := "FollowingRefs") rfl (by decide) rfl (by decide) inlX11 (wsl_1 _ (List.mem_of_getElem? (i := 20) rfl)) rfl dX11_table_6 rfl ?_
    refine r_get 4 0 (o := h a0 1) (w := (0, h (h a0 1) 0)) (T := TX4) (ref := "FollowingRefs$Schema") rfl (by decide) rfl (by decide) inlX4 (wsl_52 _ (List.mem_of_getElem? (i := 22) rfl)) rfl dX11_table_9 rfl ?_
    refine r_icmp_lt dX11_table_12 (tgt := 17) (by decide) (fun hc => ?_) (fun hc => ?_)
    · have hr := ifp hr hc
      refine r_iload_n dX11_table_17 rfl 2 rfl (Or.inl rfl) ?_
      by_cases hs0 : a2 = 0
      · have hr := ifp hr hs0
        refine r_tableIn dX11_table_18 (by omega) (by omega) (off := 34) (by rw [hs0]; rfl) (tgt := 52) (by decide) ?_
        refine r_aload_n dX11_table_52 rfl 0 rfl (nl rfl) ?_
        refine r_get 11 1 (o := a0) (w := (14, h a0 1)) (T := TX11) (ref := "FollowingRefs") rfl (by decide) rfl (by decide) inlX11 (wsl_1 _ (List.mem_of_getElem? (i := 20) rfl)) rfl dX11_table_53 rfl ?_
        refine r_iload_n dX11_table_56 rfl 1 rfl (Or.inl rfl) ?_
        obtain ⟨r57, hg57, hr⟩ := bnd hr
        refine k_V (ci := 4) (o := h a0 1) (T := TX4) (as := [(0, a1)]) (rest := []) (X := (some (0, r57), h)) (oX4_width hg57) gX4_width rfl (by decide) rfl (wsl_55 _ (List.mem_of_getElem? (i := 3) rfl)) rfl dX11_table_57 rfl ?_
        obtain rfl := Option.some.inj hr
        exact r_ret dX11_table_60 rfl (Or.inl ⟨rfl, rfl⟩) (k0 _ hk) ⟨rfl, rfl⟩
      have hr := ifn hr hs0
      by_cases hs1 : a2 = 1
      · have hr := ifp hr hs1
        refine r_tableIn dX11_table_18 (by omega) (by omega) (off := 43) (by rw [hs1]; rfl) (tgt := 61) (by decide) ?_
        refine r_aload_n dX11_table_61 rfl 0 rfl (nl rfl) ?_
        refine r_get 11 1 (o := a0) (w := (14, h a0 1)) (T := TX11) (ref := "FollowingRefs") rfl (by decide) rfl (by decide) inlX11 (wsl_1 _ (List.mem_of_getElem? (i := 20) rfl)) rfl dX11_table_62 rfl ?_
        refine r_iload_n dX11_table_65 rfl 1 rfl (Or.inl rfl) ?_
        obtain ⟨r66, hg66, hr⟩ := bnd hr
        refine k_V (ci := 4) (o := h a0 1) (T := TX4) (as := [(0, a1)]) (rest := []) (X := (some (0, r66), h)) (oX4_keysOf hg66) gX4_keysOf rfl (by decide) rfl (wsl_57 _ (List.mem_of_getElem? (i := 6) rfl)) rfl dX11_table_66 rfl ?_
        obtain rfl := Option.some.inj hr
        exact r_ret dX11_table_69 rfl (Or.inl ⟨rfl, rfl⟩) (k0 _ hk) ⟨rfl, rfl⟩
      have hr := ifn hr hs1
      by_cases hs2 : a2 = 2
      · have hr := ifp hr hs2
        refine r_tableIn dX11_table_18 (by omega) (by omega) (off := 52) (by rw [hs2]; rfl) (tgt := 70) (by decide) ?_
        refine r_aload_n dX11_table_70 rfl 0 rfl (nl rfl) ?_
        refine r_get 11 1 (o := a0) (w := (14, h a0 1)) (T := TX11) (ref := "FollowingRefs") rfl (by decide) rfl (by decide) inlX11 (wsl_1 _ (List.mem_of_getElem? (i := 20) rfl)) rfl dX11_table_71 rfl ?_
        refine r_iconst dX11_table_74 (by decide) ?_
        refine r_iload_n dX11_table_75 rfl 1 rfl (Or.inl rfl) ?_
        obtain ⟨r76, hg76, hr⟩ := bnd hr
        refine k_V (ci := 4) (o := h a0 1) (T := TX4) (as := [(0, 0), (0, a1)]) (rest := []) (X := (some (0, r76), h)) (oX4_refsBy hg76) gX4_refsBy rfl (by decide) rfl (wsl_57 _ (List.mem_of_getElem? (i := 10) rfl)) rfl dX11_table_76 rfl ?_
        obtain rfl := Option.some.inj hr
        exact r_ret dX11_table_79 rfl (Or.inl ⟨rfl, rfl⟩) (k0 _ hk) ⟨rfl, rfl⟩
      have hr := ifn hr hs2
      by_cases hs3 : a2 = 3
      · have hr := ifp hr hs3
        refine r_tableIn dX11_table_18 (by omega) (by omega) (off := 62) (by rw [hs3]; rfl) (tgt := 80) (by decide) ?_
        refine r_aload_n dX11_table_80 rfl 0 rfl (nl rfl) ?_
        refine r_get 11 1 (o := a0) (w := (14, h a0 1)) (T := TX11) (ref := "FollowingRefs") rfl (by decide) rfl (by decide) inlX11 (wsl_1 _ (List.mem_of_getElem? (i := 20) rfl)) rfl dX11_table_81 rfl ?_
        refine r_iconst dX11_table_84 (by decide) ?_
        refine r_iload_n dX11_table_85 rfl 1 rfl (Or.inl rfl) ?_
        obtain ⟨r86, hg86, hr⟩ := bnd hr
        refine k_V (ci := 4) (o := h a0 1) (T := TX4) (as := [(0, 1), (0, a1)]) (rest := []) (X := (some (0, r86), h)) (oX4_refsBy hg86) gX4_refsBy rfl (by decide) rfl (wsl_57 _ (List.mem_of_getElem? (i := 10) rfl)) rfl dX11_table_86 rfl ?_
        obtain rfl := Option.some.inj hr
        exact r_ret dX11_table_89 rfl (Or.inl ⟨rfl, rfl⟩) (k0 _ hk) ⟨rfl, rfl⟩
      have hr := ifn hr hs3
      by_cases hs4 : a2 = 4
      · have hr := ifp hr hs4
        refine r_tableIn dX11_table_18 (by omega) (by omega) (off := 72) (by rw [hs4]; rfl) (tgt := 90) (by decide) ?_
        refine r_aload_n dX11_table_90 rfl 0 rfl (nl rfl) ?_
        refine r_get 11 1 (o := a0) (w := (14, h a0 1)) (T := TX11) (ref := "FollowingRefs") rfl (by decide) rfl (by decide) inlX11 (wsl_1 _ (List.mem_of_getElem? (i := 20) rfl)) rfl dX11_table_91 rfl ?_
        refine r_iload_n dX11_table_94 rfl 1 rfl (Or.inl rfl) ?_
        obtain ⟨r95, hg95, hr⟩ := bnd hr
        refine k_V (ci := 4) (o := h a0 1) (T := TX4) (as := [(0, a1)]) (rest := []) (X := (some (0, r95), h)) (oX4_perils hg95) gX4_perils rfl (by decide) rfl (wsl_57 _ (List.mem_of_getElem? (i := 15) rfl)) rfl dX11_table_95 rfl ?_
        obtain rfl := Option.some.inj hr
        exact r_ret dX11_table_98 rfl (Or.inl ⟨rfl, rfl⟩) (k0 _ hk) ⟨rfl, rfl⟩
      have hr := ifn hr hs4
      refine r_tableOut dX11_table_18 (by omega) (tgt := 99) (by decide) ?_
      refine r_iconst dX11_table_99 (by decide) ?_
      obtain rfl := Option.some.inj hr
      exact r_ret dX11_table_100 rfl (Or.inl ⟨rfl, rfl⟩) (k0 _ hk) ⟨rfl, rfl⟩
    · have hr := ifn hr hc
      refine r_iconst dX11_table_15 (by decide) ?_
      obtain rfl := Option.some.inj hr
      exact r_ret dX11_table_16 rfl (Or.inl ⟨rfl, rfl⟩) (k0 _ hk) ⟨rfl, rfl⟩
end M_X11_table
theorem oX11_table {l : Launch} {D : va_G} {G : gG} {h : hH} {a0 a1 a2 : Int} {r : Int} (hr : fX11_table h a0 a1 a2 = some r) : Ctr l D G true yX11_table M_X11_table [(21, a0), (0, a1), (0, a2)] h (some (0, r), h) :=
  Ctr_of (by decide) rfl (fun z => by cases z) (nl rfl) (fun {p e R s m args below meth c A H0} => by
    exact oX11_table_b0 (K := fun z9 => z9 = r) (fun r9 z => by rw [z]) hr rfl)
/-! X11_ref -/
theorem dX11_ref_0 : decode cX11_ref 0 = .ok (.iload_n 1, 1) := by decide +kernel
theorem dX11_ref_1 : decode cX11_ref 1 = .ok (.ifCond .lt 24, 3) := by decide +kernel
theorem dX11_ref_4 : decode cX11_ref 4 = .ok (.iload_n 1, 1) := by decide +kernel
theorem dX11_ref_5 : decode cX11_ref 5 = .ok (.aload_n 0, 1) := by decide +kernel
theorem dX11_ref_6 : decode cX11_ref 6 = .ok (.getfield 19, 3) := by decide +kernel
theorem dX11_ref_9 : decode cX11_ref 9 = .ok (.getfield 253, 3) := by decide +kernel
theorem dX11_ref_12 : decode cX11_ref 12 = .ok (.if_icmp .ge 13, 3) := by decide +kernel
theorem dX11_ref_15 : decode cX11_ref 15 = .ok (.iload_n 2, 1) := by decide +kernel
theorem dX11_ref_16 : decode cX11_ref 16 = .ok (.ifCond .lt 9, 3) := by decide +kernel
theorem dX11_ref_19 : decode cX11_ref 19 = .ok (.iload_n 2, 1) := by decide +kernel
theorem dX11_ref_20 : decode cX11_ref 20 = .ok (.bipush 6, 2) := by decide +kernel
theorem dX11_ref_22 : decode cX11_ref 22 = .ok (.if_icmp .le 7, 3) := by decide +kernel
theorem dX11_ref_25 : decode cX11_ref 25 = .ok (.iconst (-1), 1) := by decide +kernel
theorem dX11_ref_26 : decode cX11_ref 26 = .ok (.goto 12, 3) := by decide +kernel
theorem dX11_ref_29 : decode cX11_ref 29 = .ok (.aload_n 0, 1) := by decide +kernel
theorem dX11_ref_30 : decode cX11_ref 30 = .ok (.getfield 19, 3) := by decide +kernel
theorem dX11_ref_33 : decode cX11_ref 33 = .ok (.iload_n 1, 1) := by decide +kernel
theorem dX11_ref_34 : decode cX11_ref 34 = .ok (.iload_n 2, 1) := by decide +kernel
theorem dX11_ref_35 : decode cX11_ref 35 = .ok (.invokevirtual 292, 3) := by decide +kernel
theorem dX11_ref_38 : decode cX11_ref 38 = .ok (.ireturn, 1) := by decide +kernel
abbrev M_X11_ref : mM := (cX11_ref, 3, RX11, some .int, false, 2, 43, 0, 0)
theorem gX11_ref : cI yX11_ref M_X11_ref 2 := ⟨(wsl_59 _ (List.mem_of_getElem? (i := 2) rfl)), (wsl_59 _ (List.mem_of_getElem? (i := 3) rfl)), (wsl_1 _ (List.mem_of_getElem? (i := 2) rfl)), (wsl_59 _ (List.mem_of_getElem? (i := 4) rfl)), by decide +kernel⟩
noncomputable def fX11_ref_b25 (h : hH) : Option (Int) :=
  some (-1)
noncomputable def fX11_ref (h : hH) (a0 a1 a2 : Int) : Option (Int) :=
  if a1 < 0 then
    fX11_ref_b25 h
  else
    if a1 < h (h a0 1) 2 then
      if a2 < 0 then
        fX11_ref_b25 h
      else
        if 6 < a2 then
          fX11_ref_b25 h
        else
          (fX4_refPart h (h a0 1) a1 a2).bind fun r35 =>
          some r35
    else
      fX11_ref_b25 h
section M_X11_ref
variable {p : Program} {l : Launch} {e : Env} {R : Room} {s : State} {m : MethodId} {args : Array Value} {below : List Frame} {meth : Method} {c : Code} {D : va_G} {G : gG} {A : Nat → Prop} {H0 : Heap} {n0 : Int} {x : Option vV × hH} {h : hH}
set_option maxRecDepth 100000 in
set_option maxHeartbeats 4000000 in
theorem oX11_ref_b25 {K : Int → Prop} (k0 : ∀ r, K (r) → x = (some (0, r), h)) {r : Int} (hr : fX11_ref_b25 h  = some r) (hk : K r) : Wq p l e R s m args below meth c D G A H0 true n0 M_X11_ref x 0 0 25 [] [] h := by
  unfold fX11_ref_b25 at hr
  refine r_iconst dX11_ref_25 (by decide) ?_
  refine r_goto dX11_ref_26 (tgt := 38) (by decide) ?_
  obtain rfl := Option.some.inj hr
  exact r_ret dX11_ref_38 rfl (Or.inl ⟨rfl, rfl⟩) (k0 _ hk) ⟨rfl, rfl⟩
set_option maxRecDepth 100000 in
set_option maxHeartbeats 4000000 in
theorem oX11_ref_b0 {a0 a1 a2 : Int} {K : Int → Prop} (k0 : ∀ r, K (r) → x = (some (0, r), h)) {r : Int} (hr : fX11_ref h a0 a1 a2 = some r) (hk : K r) : Wq p l e R s m args below meth c D G A H0 true n0 M_X11_ref x 0 0 0 [(0, (21, a0)), (1, (0, a1)), (2, (0, a2))] [] h := by
  unfold fX11_ref at hr
  refine r_iload_n dX11_ref_0 rfl 1 rfl (Or.inl rfl) ?_
  refine r_if_lt dX11_ref_1 (tgt := 25) (by decide) (fun hc => ?_) (fun hc => ?_)
  · have hr := ifp hr hc
    refine r_sub [] (lv' := []) rfl ?_
    exact oX11_ref_b25 (K := K) (fun r z => k0 r z) hr hk
  · have hr := ifn hr hc
    refine r_iload_n dX11_ref_4 rfl 1 rfl (Or.inl rfl) ?_
    refine r_aload_n dX11_ref_5 rfl 0 rfl (nl rfl) ?_
    refine r_get 11 1 (o := a0) (w := (14, h a0 1)) (T := TX11) (ref := "FollowingRefs") rfl (by decide) rfl (by decide) inlX11 (wsl_1 _ (List.mem_of_getElem? (i := 20) rfl)) rfl dX11_ref_6 rfl ?_
    refine r_get 4 2 (o := h a0 1) (w := (0, h (h a0 1) 2)) (T := TX4) (ref := "FollowingRefs$Schema") rfl (by decide) rfl (by decide) inlX4 (wsl_56 _ (List.mem_of_getElem? (i := 1) rfl)) rfl dX11_ref_9 rfl ?_
    refine r_icmp_ge dX11_ref_12 (tgt := 25) (by decide) (fun hc => ?_) (fun hc => ?_)
    · have hr := ifn hr hc
      refine r_sub [] (lv' := []) rfl ?_
      exact oX11_ref_b25 (K := K) (fun r z => k0 r z) hr hk
    · have hr := ifp hr hc
      refine r_iload_n dX11_ref_15 rfl 2 rfl (Or.inl rfl) ?_
      refine r_if_lt dX11_ref_16 (tgt := 25) (by decide) (fun hc => ?_) (fun hc => ?_)
      · have hr := ifp hr hc
        refine r_sub [] (lv' := []) rfl ?_
        exact oX11_ref_b25 (K := K) (fun r z => k0 r z) hr hk
      · have hr := ifn hr hc
        refine r_iload_n dX11_ref_19 rfl 2 rfl (Or.inl rfl) ?_
        refine r_bipush dX11_ref_20 (by decide) (by decide) ?_
        refine r_icmp_le dX11_ref_22 (tgt := 29) (by decide) (fun hc => ?_) (fun hc => ?_)
        · have hr := ifn hr hc
          refine r_aload_n dX11_ref_29 rfl 0 rfl (nl rfl) ?_
          refine r_get 11 1 (o := a0) (w := (14, h a0 1)) (T := TX11) (ref := "FollowingRefs") rfl (by decide) rfl (by decide) inlX11 (wsl_1 _ (List.mem_of_getElem? (i := 20) rfl)) rfl dX11_ref_30 rfl ?_
          refine r_iload_n dX11_ref_33 rfl 1 rfl (Or.inl rfl) ?_
          refine r_iload_n dX11_ref_34 rfl 2 rfl (Or.inl rfl) ?_
          obtain ⟨r35, hg35, hr⟩ := bnd hr
          refine k_V (ci := 4) (o := h a0 1) (T := TX4) (as := [(0, a1), (0, a2)]) (rest := []) (X := (some (0, r35), h)) (oX4_refPart hg35) gX4_refPart rfl (by decide) rfl (wsl_59 _ (List.mem_of_getElem? (i := 5) rfl)) rfl dX11_ref_35 rfl ?_
          obtain rfl := Option.some.inj hr
          exact r_ret dX11_ref_38 rfl (Or.inl ⟨rfl, rfl⟩) (k0 _ hk) ⟨rfl, rfl⟩
        · have hr := ifp hr hc
          refine r_sub [] (lv' := []) rfl ?_
          exact oX11_ref_b25 (K := K) (fun r z => k0 r z) hr hk
end M_X11_ref
theorem oX11_ref {l : Launch} {D : va_G} {G : gG} {h : hH} {a0 a1 a2 : Int} {r : Int} (hr : fX11_ref h a0 a1 a2 = some r) : Ctr l D G true yX11_ref M_X11_ref [(21, a0), (0, a1), (0, a2)] h (some (0, r), h) :=
  Ctr_of (by decide) rfl (fun z => by cases z) (nl rfl) (fun {p e R s m args below meth c A H0} => by
    exact oX11_ref_b0 (K := fun z9 => z9 = r) (fun r9 z => by rw [z]) hr rfl)
/-! X11_order -/
theorem dX11_order_0 : decode cX11_order 0 = .ok (.aload_n 0, 1) := by decide +kernel
theorem dX11_order_1 : decode cX11_order 1 = .ok (.getfield 19, 3) := by decide +kernel
theorem dX11_order_4 : decode cX11_order 4 = .ok (.invokevirtual 295, 3) := by decide +kernel
theorem dX11_order_7 : decode cX11_order 7 = .ok (.istore_n 1, 1) := by decide +kernel
theorem dX11_order_8 : decode cX11_order 8 = .ok (.iload_n 1, 1) := by decide +kernel
theorem dX11_order_9 : decode cX11_order 9 = .ok (.iconst (-1), 1) := by decide +kernel
theorem dX11_order_10 : decode cX11_order 10 = .ok (.if_icmp .ne 5, 3) := by decide +kernel
theorem dX11_order_13 : decode cX11_order 13 = .ok (.iconst (-1), 1) := by decide +kernel
theorem dX11_order_14 : decode cX11_order 14 = .ok (.ireturn, 1) := by decide +kernel
theorem dX11_order_15 : decode cX11_order 15 = .ok (.aload_n 0, 1) := by decide +kernel
theorem dX11_order_16 : decode cX11_order 16 = .ok (.iload_n 1, 1) := by decide +kernel
theorem dX11_order_17 : decode cX11_order 17 = .ok (.putfield 299, 3) := by decide +kernel
theorem dX11_order_20 : decode cX11_order 20 = .ok (.aload_n 0, 1) := by decide +kernel
theorem dX11_order_21 : decode cX11_order 21 = .ok (.aload_n 0, 1) := by decide +kernel
theorem dX11_order_22 : decode cX11_order 22 = .ok (.getfield 19, 3) := by decide +kernel
theorem dX11_order_25 : decode cX11_order 25 = .ok (.getfield 228, 3) := by decide +kernel
theorem dX11_order_28 : decode cX11_order 28 = .ok (.putfield 302, 3) := by decide +kernel
theorem dX11_order_31 : decode cX11_order 31 = .ok (.aload_n 0, 1) := by decide +kernel
theorem dX11_order_32 : decode cX11_order 32 = .ok (.getfield 302, 3) := by decide +kernel
theorem dX11_order_35 : decode cX11_order 35 = .ok (.ireturn, 1) := by decide +kernel
abbrev M_X11_order : mM := (cX11_order, 2, RX11, some .int, false, 4, 91, 0, 0)
theorem gX11_order : cI yX11_order M_X11_order 0 := ⟨(wsl_59 _ (List.mem_of_getElem? (i := 11) rfl)), (wsl_59 _ (List.mem_of_getElem? (i := 12) rfl)), (wsl_1 _ (List.mem_of_getElem? (i := 2) rfl)), (wsl_59 _ (List.mem_of_getElem? (i := 13) rfl)), by decide +kernel⟩
noncomputable def fX11_order (h : hH) (a0 : Int) : Option (Int × hH) :=
  (fX4_packedOrder h (h a0 1)).bind fun r4 =>
  if r4 = -1 then
    some (-1, h)
  else
    (pput h a0 17 r4).bind fun h17 =>
    (pput h17 a0 16 (h17 (h17 a0 1) 0)).bind fun h28 =>
    some (h28 a0 16, h28)
section M_X11_order
variable {p : Program} {l : Launch} {e : Env} {R : Room} {s : State} {m : MethodId} {args : Array Value} {below : List Frame} {meth : Method} {c : Code} {D : va_G} {G : gG} {A : Nat → Prop} {H0 : Heap} {n0 : Int} {x : Option vV × hH} {h : hH}
set_option maxRecDepth 100000 in
set_option maxHeartbeats 4000000 in
theorem oX11_order_b0 {a0 : Int} {K : Int × hH → Prop} (k0 : ∀ r, K (r) → x = (some (0, r.1), r.2)) {r : Int × hH} (hr : fX11_order h a0 = some r) (hk : K r) : Wq p l e R s m args below meth c D G A H0 true n0 M_X11_order x 0 0 0 [(0, (21, a0))] [] h := by
  unfold fX11_order at hr
  refine r_aload_n dX11_order_0 rfl 0 rfl (nl rfl) ?_
  refine r_get 11 1 (o := a0) (w := (14, h a0 1)) (T := TX11) (ref := "FollowingRefs") rfl (by decide) rfl (by decide) inlX11 (wsl_1 _ (List.mem_of_getElem? (i := 20) rfl)) rfl dX11_order_1 rfl ?_
  obtain ⟨r4, hg4, hr⟩ := bnd hr
  refine k_V (ci := 4) (o := h a0 1) (T := TX4) (as := []) (rest := []) (X := (some (0, r4), h)) (oX4_packedOrder hg4) gX4_packedOrder rfl (by decide) rfl (wsl_59 _ (List.mem_of_getElem? (i := 16) rfl)) rfl dX11_order_4 rfl ?_
  refine r_istore_n dX11_order_7 rfl (Or.inl rfl) (by decide) (lv' := [(1, (0, r4)), (0, (21, a0))]) rfl ?_
  refine r_iload_n dX11_order_8 rfl 0 rfl (Or.inl rfl) ?_
  refine r_iconst dX11_order_9 (by decide) ?_
  refine r_icmp_ne dX11_order_10 (tgt := 15) (by decide) (fun hc => ?_) (fun hc => ?_)
  · have hr := ifn hr hc
    refine r_aload_n dX11_order_15 rfl 1 rfl (nl rfl) ?_
    refine r_iload_n dX11_order_16 rfl 0 rfl (Or.inl rfl) ?_
    obtain ⟨h17, hg17, hr⟩ := bnd hr
    refine r_put' 11 17 (t := 0) (ref := "FollowingRefs") hg17 rfl tyX11 tyX11_ok nmX11 rfl (by decide) rfl (by decide) inlX11 (wsl_59 _ (List.mem_of_getElem? (i := 14) rfl)) rfl rfl (by decide +kernel) (by decide) rfl (Or.inl ⟨rfl, rfl⟩) dX11_order_17 ?_
    refine r_aload_n dX11_order_20 rfl 1 rfl (nl rfl) ?_
    refine r_aload_n dX11_order_21 rfl 1 rfl (nl rfl) ?_
    refine r_get 11 1 (o := a0) (w := (14, h17 a0 1)) (T := TX11) (ref := "FollowingRefs") rfl (by decide) rfl (by decide) inlX11 (wsl_1 _ (List.mem_of_getElem? (i := 20) rfl)) rfl dX11_order_22 rfl ?_
    refine r_get 4 0 (o := h17 a0 1) (w := (0, h17 (h17 a0 1) 0)) (T := TX4) (ref := "FollowingRefs$Schema") rfl (by decide) rfl (by decide) inlX4 (wsl_52 _ (List.mem_of_getElem? (i := 22) rfl)) rfl dX11_order_25 rfl ?_
    obtain ⟨h28, hg28, hr⟩ := bnd hr
    refine r_put' 11 16 (t := 0) (ref := "FollowingRefs") hg28 rfl tyX11 tyX11_ok nmX11 rfl (by decide) rfl (by decide) inlX11 (wsl_59 _ (List.mem_of_getElem? (i := 15) rfl)) rfl rfl (by decide +kernel) (by decide) rfl (Or.inl ⟨rfl, rfl⟩) dX11_order_28 ?_
    refine r_aload_n dX11_order_31 rfl 1 rfl (nl rfl) ?_
    refine r_get 11 16 (o := a0) (w := (0, h28 a0 16)) (T := TX11) (ref := "FollowingRefs") rfl (by decide) rfl (by decide) inlX11 (wsl_59 _ (List.mem_of_getElem? (i := 15) rfl)) rfl dX11_order_32 rfl ?_
    obtain rfl := Option.some.inj hr
    exact r_ret dX11_order_35 rfl (Or.inl ⟨rfl, rfl⟩) (k0 _ hk) ⟨rfl, rfl⟩
  · have hr := ifp hr hc
    refine r_iconst dX11_order_13 (by decide) ?_
    obtain rfl := Option.some.inj hr
    exact r_ret dX11_order_14 rfl (Or.inl ⟨rfl, rfl⟩) (k0 _ hk) ⟨rfl, rfl⟩
end M_X11_order
theorem oX11_order {l : Launch} {D : va_G} {G : gG} {h : hH} {a0 : Int} {r : Int × hH} (hr : fX11_order h a0 = some r) : Ctr l D G true yX11_order M_X11_order [(21, a0)] h (some (0, r.1), r.2) :=
  Ctr_of (by decide) rfl (fun z => by cases z) (nl rfl) (fun {p e R s m args below meth c A H0} => by
    exact oX11_order_b0 (K := fun z9 => z9 = r) (fun r9 z => by rw [z]) hr rfl)
/-! X11_orderAt -/
theorem dX11_orderAt_0 : decode cX11_orderAt 0 = .ok (.iload_n 1, 1) := by decide +kernel
theorem dX11_orderAt_1 : decode cX11_orderAt 1 = .ok (.ifCond .lt 11, 3) := by decide +kernel
theorem dX11_orderAt_4 : decode cX11_orderAt 4 = .ok (.iload_n 1, 1) := by decide +kernel
theorem dX11_orderAt_5 : decode cX11_orderAt 5 = .ok (.aload_n 0, 1) := by decide +kernel
theorem dX11_orderAt_6 : decode cX11_orderAt 6 = .ok (.getfield 302, 3) := by decide +kernel
theorem dX11_orderAt_9 : decode cX11_orderAt 9 = .ok (.if_icmp .lt 7, 3) := by decide +kernel
theorem dX11_orderAt_12 : decode cX11_orderAt 12 = .ok (.iconst (-1), 1) := by decide +kernel
theorem dX11_orderAt_13 : decode cX11_orderAt 13 = .ok (.goto 14, 3) := by decide +kernel
theorem dX11_orderAt_16 : decode cX11_orderAt 16 = .ok (.aload_n 0, 1) := by decide +kernel
theorem dX11_orderAt_17 : decode cX11_orderAt 17 = .ok (.getfield 299, 3) := by decide +kernel
theorem dX11_orderAt_20 : decode cX11_orderAt 20 = .ok (.iconst 4, 1) := by decide +kernel
theorem dX11_orderAt_21 : decode cX11_orderAt 21 = .ok (.iload_n 1, 1) := by decide +kernel
theorem dX11_orderAt_22 : decode cX11_orderAt 22 = .ok (.imul, 1) := by decide +kernel
theorem dX11_orderAt_23 : decode cX11_orderAt 23 = .ok (.iushr, 1) := by decide +kernel
theorem dX11_orderAt_24 : decode cX11_orderAt 24 = .ok (.bipush 15, 2) := by decide +kernel
theorem dX11_orderAt_26 : decode cX11_orderAt 26 = .ok (.iand, 1) := by decide +kernel
theorem dX11_orderAt_27 : decode cX11_orderAt 27 = .ok (.ireturn, 1) := by decide +kernel
abbrev M_X11_orderAt : mM := (cX11_orderAt, 2, RX11, some .int, false, 0, 0, 0, 0)
theorem gX11_orderAt : cI yX11_orderAt M_X11_orderAt 1 := ⟨(wsl_60 _ (List.mem_of_getElem? (i := 9) rfl)), (wsl_60 _ (List.mem_of_getElem? (i := 10) rfl)), (wsl_1 _ (List.mem_of_getElem? (i := 2) rfl)), (wsl_60 _ (List.mem_of_getElem? (i := 11) rfl)), by decide +kernel⟩
noncomputable def fX11_orderAt_b12 (h : hH) : Option (Int) :=
  some (-1)
noncomputable def fX11_orderAt (h : hH) (a0 a1 : Int) : Option (Int) :=
  if a1 < 0 then
    fX11_orderAt_b12 h
  else
    if a1 < h a0 16 then
      some (iadD (iusD (h a0 17) (w32 (4 * a1))) 15)
    else
      fX11_orderAt_b12 h
section M_X11_orderAt
variable {p : Program} {l : Launch} {e : Env} {R : Room} {s : State} {m : MethodId} {args : Array Value} {below : List Frame} {meth : Method} {c : Code} {D : va_G} {G : gG} {A : Nat → Prop} {H0 : Heap} {n0 : Int} {x : Option vV × hH} {h : hH}
set_option maxRecDepth 100000 in
set_option maxHeartbeats 4000000 in
theorem oX11_orderAt_b12 {K : Int → Prop} (k0 : ∀ r, K (r) → x = (some (0, r), h)) {r : Int} (hr : fX11_orderAt_b12 h  = some r) (hk : K r) : Wq p l e R s m args below meth c D G A H0 true n0 M_X11_orderAt x 0 0 12 [] [] h := by
  unfold fX11_orderAt_b12 at hr
  refine r_iconst dX11_orderAt_12 (by decide) ?_
  refine r_goto dX11_orderAt_13 (tgt := 27) (by decide) ?_
  obtain rfl := Option.some.inj hr
  exact r_ret dX11_orderAt_27 rfl (Or.inl ⟨rfl, rfl⟩) (k0 _ hk) ⟨rfl, rfl⟩
set_option maxRecDepth 100000 in
set_option maxHeartbeats 4000000 in
theorem oX11_orderAt_b0 {a0 a1 : Int} {K : Int → Prop} (k0 : ∀ r, K (r) → x = (some (0, r), h)) {r : Int} (hr : fX11_orderAt h a0 a1 = some r) (hk : K r) : Wq p l e R s m args below meth c D G A H0 true n0 M_X11_orderAt x 0 0 0 [(0, (21, a0)), (1, (0, a1))] [] h := by
  unfold fX11_orderAt at hr
  refine r_iload_n dX11_orderAt_0 rfl 1 rfl (Or.inl rfl) ?_
  refine r_if_lt dX11_orderAt_1 (tgt := 12) (by decide) (fun hc => ?_) (fun hc => ?_)
  · have hr := ifp hr hc
    refine r_sub [] (lv' := []) rfl ?_
    exact oX11_orderAt_b12 (K := K) (fun r z => k0 r z) hr hk
  · have hr := ifn hr hc
    refine r_iload_n dX11_orderAt_4 rfl 1 rfl (Or.inl rfl) ?_
    refine r_aload_n dX11_orderAt_5 rfl 0 rfl (nl rfl) ?_
    refine r_get 11 16 (o := a0) (w := (0, h a0 16)) (T := TX11) (ref := "FollowingRefs") rfl (by decide) rfl (by decide) inlX11 (wsl_59 _ (List.mem_of_getElem? (i := 15) rfl)) rfl dX11_orderAt_6 rfl ?_
    refine r_icmp_lt dX11_orderAt_9 (tgt := 16) (by decide) (fun hc => ?_) (fun hc => ?_)
    · have hr := ifp hr hc
      refine r_aload_n dX11_orderAt_16 rfl 0 rfl (nl rfl) ?_
      refine r_get 11 17 (o := a0) (w := (0, h a0 17)) (T := TX11) (ref := "FollowingRefs") rfl (by decide) rfl (by decide) inlX11 (wsl_59 _ (List.mem_of_getElem? (i := 14) rfl)) rfl dX11_orderAt_17 rfl ?_
      refine r_iconst dX11_orderAt_20 (by decide) ?_
      refine r_iload_n dX11_orderAt_21 rfl 1 rfl (Or.inl rfl) ?_
      refine r_imul dX11_orderAt_22 ?_
      refine r_iushr dX11_orderAt_23 ?_
      refine r_bipush dX11_orderAt_24 (by decide) (by decide) ?_
      refine r_iand dX11_orderAt_26 ?_
      obtain rfl := Option.some.inj hr
      exact r_ret dX11_orderAt_27 rfl (Or.inl ⟨rfl, rfl⟩) (k0 _ hk) ⟨rfl, rfl⟩
    · have hr := ifn hr hc
      refine r_sub [] (lv' := []) rfl ?_
      exact oX11_orderAt_b12 (K := K) (fun r z => k0 r z) hr hk
end M_X11_orderAt
theorem oX11_orderAt {l : Launch} {D : va_G} {G : gG} {h : hH} {a0 a1 : Int} {r : Int} (hr : fX11_orderAt h a0 a1 = some r) : Ctr l D G true yX11_orderAt M_X11_orderAt [(21, a0), (0, a1)] h (some (0, r), h) :=
  Ctr_of (by decide) rfl (fun z => by cases z) (nl rfl) (fun {p e R s m args below meth c A H0} => by
    exact oX11_orderAt_b0 (K := fun z9 => z9 = r) (fun r9 z => by rw [z]) hr rfl)
/-! X11_writeByte -/
theorem dX11_writeByte_0 : decode cX11_writeByte 0 = .ok (.aload_n 0, 1) := by decide +kernel
theorem dX11_writeByte_1 : decode cX11_writeByte 1 = .ok (.getfield 314, 3) := by decide +kernel
theorem dX11_writeByte_4 : decode cX11_writeByte 4 = .ok (.ifCond .lt 36, 3) := by decide +kernel
theorem dX11_writeByte_7 : decode cX11_writeByte 7 = .ok (.aload_n 0, 1) := by decide +kernel
theorem dX11_writeByte_8 : decode cX11_writeByte 8 = .ok (.getfield 314, 3) := by decide +kernel
theorem dX11_writeByte_11 : decode cX11_writeByte 11 = .ok (.aload_n 0, 1) := by decide +kernel
theorem dX11_writeByte_12 : decode cX11_writeByte 12 = .ok (.getfield 91, 3) := by decide +kernel
theorem dX11_writeByte_15 : decode cX11_writeByte 15 = .ok (.arraylength, 1) := by decide +kernel
theorem dX11_writeByte_16 : decode cX11_writeByte 16 = .ok (.if_icmp .ge 24, 3) := by decide +kernel
theorem dX11_writeByte_19 : decode cX11_writeByte 19 = .ok (.aload_n 0, 1) := by decide +kernel
theorem dX11_writeByte_20 : decode cX11_writeByte 20 = .ok (.getfield 91, 3) := by decide +kernel
theorem dX11_writeByte_23 : decode cX11_writeByte 23 = .ok (.aload_n 0, 1) := by decide +kernel
theorem dX11_writeByte_24 : decode cX11_writeByte 24 = .ok (.getfield 314, 3) := by decide +kernel
theorem dX11_writeByte_27 : decode cX11_writeByte 27 = .ok (.iload_n 1, 1) := by decide +kernel
theorem dX11_writeByte_28 : decode cX11_writeByte 28 = .ok (.i2b, 1) := by decide +kernel
theorem dX11_writeByte_29 : decode cX11_writeByte 29 = .ok (.bastore, 1) := by decide +kernel
theorem dX11_writeByte_30 : decode cX11_writeByte 30 = .ok (.aload_n 0, 1) := by decide +kernel
theorem dX11_writeByte_31 : decode cX11_writeByte 31 = .ok (.dup, 1) := by decide +kernel
theorem dX11_writeByte_32 : decode cX11_writeByte 32 = .ok (.getfield 314, 3) := by decide +kernel
theorem dX11_writeByte_35 : decode cX11_writeByte 35 = .ok (.iconst 1, 1) := by decide +kernel
theorem dX11_writeByte_36 : decode cX11_writeByte 36 = .ok (.iadd, 1) := by decide +kernel
theorem dX11_writeByte_37 : decode cX11_writeByte 37 = .ok (.putfield 314, 3) := by decide +kernel
theorem dX11_writeByte_40 : decode cX11_writeByte 40 = .ok (.return_, 1) := by decide +kernel
abbrev M_X11_writeByte : mM := (cX11_writeByte, 2, RX11, none, false, 0, 0, 0, 0)
theorem gX11_writeByte : cI yX11_writeByte M_X11_writeByte 1 := ⟨(wsl_62 _ (List.mem_of_getElem? (i := 1) rfl)), (wsl_62 _ (List.mem_of_getElem? (i := 2) rfl)), (wsl_1 _ (List.mem_of_getElem? (i := 2) rfl)), (wsl_62 _ (List.mem_of_getElem? (i := 3) rfl)), by decide +kernel⟩
noncomputable def fX11_writeByte (h : hH) (a0 a1 : Int) : Option (hH) :=
  if h a0 15 < 0 then
    some h
  else
    if h a0 15 < h (h a0 14) (-1) then
      (aput h (h a0 14) (h a0 15) (i2bD (i2bD a1))).bind fun h29 =>
      (pput h29 a0 15 (w32 ((h29 a0 15) + 1))).bind fun h37 =>
      some h37
    else
      some h
section M_X11_writeByte
variable {p : Program} {l : Launch} {e : Env} {R : Room} {s : State} {m : MethodId} {args : Array Value} {below : List Frame} {meth : Method} {c : Code} {D : va_G} {G : gG} {A : Nat → Prop} {H0 : Heap} {n0 : Int} {x : Option vV × hH} {h : hH}
set_option maxRecDepth 100000 in
set_option maxHeartbeats 4000000 in
theorem oX11_writeByte_b0 {a0 a1 : Int} {K : hH → Prop} (k0 : ∀ r, K (r) → x = (none, r)) {r : hH} (hr : fX11_writeByte h a0 a1 = some r) (hk : K r) : Wq p l e R s m args below meth c D G A H0 true n0 M_X11_writeByte x 0 0 0 [(0, (21, a0)), (1, (0, a1))] [] h := by
  unfold fX11_writeByte at hr
  refine r_aload_n dX11_writeByte_0 rfl 0 rfl (nl rfl) ?_
  refine r_get 11 15 (o := a0) (w := (0, h a0 15)) (T := TX11) (ref := "FollowingRefs") rfl (by decide) rfl (by decide) inlX11 (wsl_61 _ (List.mem_of_getElem? (i := 18) rfl)) rfl dX11_writeByte_1 rfl ?_
  refine r_if_lt dX11_writeByte_4 (tgt := 40) (by decide) (fun hc => ?_) (fun hc => ?_)
  · have hr := ifp hr hc
    obtain rfl := Option.some.inj hr
    exact r_vret dX11_writeByte_40 rfl (k0 _ hk) ⟨rfl, rfl⟩
  · have hr := ifn hr hc
    refine r_aload_n dX11_writeByte_7 rfl 0 rfl (nl rfl) ?_
    refine r_get 11 15 (o := a0) (w := (0, h a0 15)) (T := TX11) (ref := "FollowingRefs") rfl (by decide) rfl (by decide) inlX11 (wsl_61 _ (List.mem_of_getElem? (i := 18) rfl)) rfl dX11_writeByte_8 rfl ?_
    refine r_aload_n dX11_writeByte_11 rfl 0 rfl (nl rfl) ?_
    refine r_get 11 14 (o := a0) (w := (52, h a0 14)) (T := TX11) (ref := "FollowingRefs") rfl (by decide) rfl (by decide) inlX11 (wsl_3 _ (List.mem_of_getElem? (i := 5) rfl)) rfl dX11_writeByte_12 rfl ?_
    refine r_alen (t := 52) (by decide) (by decide) dX11_writeByte_15 ?_
    refine r_icmp_ge dX11_writeByte_16 (tgt := 40) (by decide) (fun hc => ?_) (fun hc => ?_)
    · have hr := ifn hr hc
      obtain rfl := Option.some.inj hr
      exact r_vret dX11_writeByte_40 rfl (k0 _ hk) ⟨rfl, rfl⟩
    · have hr := ifp hr hc
      refine r_aload_n dX11_writeByte_19 rfl 0 rfl (nl rfl) ?_
      refine r_get 11 14 (o := a0) (w := (52, h a0 14)) (T := TX11) (ref := "FollowingRefs") rfl (by decide) rfl (by decide) inlX11 (wsl_3 _ (List.mem_of_getElem? (i := 5) rfl)) rfl dX11_writeByte_20 rfl ?_
      refine r_aload_n dX11_writeByte_23 rfl 0 rfl (nl rfl) ?_
      refine r_get 11 15 (o := a0) (w := (0, h a0 15)) (T := TX11) (ref := "FollowingRefs") rfl (by decide) rfl (by decide) inlX11 (wsl_61 _ (List.mem_of_getElem? (i := 18) rfl)) rfl dX11_writeByte_24 rfl ?_
      refine r_iload_n dX11_writeByte_27 rfl 1 rfl (Or.inl rfl) ?_
      refine r_i2b dX11_writeByte_28 ?_
      obtain ⟨h29, hg29, hr⟩ := bnd hr
      refine r_bast dX11_writeByte_29 hg29 ?_
      refine r_aload_n dX11_writeByte_30 rfl 0 rfl (nl rfl) ?_
      refine r_dup dX11_writeByte_31 (Nat.ne_of_beq_eq_false rfl) ?_
      refine r_get 11 15 (o := a0) (w := (0, h29 a0 15)) (T := TX11) (ref := "FollowingRefs") rfl (by decide) rfl (by decide) inlX11 (wsl_61 _ (List.mem_of_getElem? (i := 18) rfl)) rfl dX11_writeByte_32 rfl ?_
      refine r_iconst dX11_writeByte_35 (by decide) ?_
      refine r_iadd dX11_writeByte_36 ?_
      obtain ⟨h37, hg37, hr⟩ := bnd hr
      refine r_put' 11 15 (t := 0) (ref := "FollowingRefs") hg37 rfl tyX11 tyX11_ok nmX11 rfl (by decide) rfl (by decide) inlX11 (wsl_61 _ (List.mem_of_getElem? (i := 18) rfl)) rfl rfl (by decide +kernel) (by decide) rfl (Or.inl ⟨rfl, rfl⟩) dX11_writeByte_37 ?_
      obtain rfl := Option.some.inj hr
      exact r_vret dX11_writeByte_40 rfl (k0 _ hk) ⟨rfl, rfl⟩
end M_X11_writeByte
theorem oX11_writeByte {l : Launch} {D : va_G} {G : gG} {h : hH} {a0 a1 : Int} {r : hH} (hr : fX11_writeByte h a0 a1 = some r) : Ctr l D G true yX11_writeByte M_X11_writeByte [(21, a0), (0, a1)] h (none, r) :=
  Ctr_of (by decide) rfl (fun z => by cases z) (nl rfl) (fun {p e R s m args below meth c A H0} => by
    exact oX11_writeByte_b0 (K := fun z9 => z9 = r) (fun r9 z => by rw [z]) hr rfl)
/-! X11_writeWord -/
theorem dX11_writeWord_0 : decode cX11_writeWord 0 = .ok (.bipush 30, 2) := by decide +kernel
theorem dX11_writeWord_2 : decode cX11_writeWord 2 = .ok (.istore_n 3, 1) := by decide +kernel
theorem dX11_writeWord_3 : decode cX11_writeWord 3 = .ok (.iload_n 3, 1) := by decide +kernel
theorem dX11_writeWord_4 : decode cX11_writeWord 4 = .ok (.ifCond .lt 32, 3) := by decide +kernel
theorem dX11_writeWord_7 : decode cX11_writeWord 7 = .ok (.lload_n 1, 1) := by decide +kernel
theorem dX11_writeWord_8 : decode cX11_writeWord 8 = .ok (.iload_n 3, 1) := by decide +kernel
theorem dX11_writeWord_9 : decode cX11_writeWord 9 = .ok (.lushr, 1) := by decide +kernel
theorem dX11_writeWord_10 : decode cX11_writeWord 10 = .ok (.l2i, 1) := by decide +kernel
theorem dX11_writeWord_11 : decode cX11_writeWord 11 = .ok (.bipush 31, 2) := by decide +kernel
theorem dX11_writeWord_13 : decode cX11_writeWord 13 = .ok (.iand, 1) := by decide +kernel
theorem dX11_writeWord_14 : decode cX11_writeWord 14 = .ok (.istore 4, 2) := by decide +kernel
theorem dX11_writeWord_16 : decode cX11_writeWord 16 = .ok (.iload 4, 2) := by decide +kernel
theorem dX11_writeWord_18 : decode cX11_writeWord 18 = .ok (.ifCond .eq 12, 3) := by decide +kernel
theorem dX11_writeWord_21 : decode cX11_writeWord 21 = .ok (.aload_n 0, 1) := by decide +kernel
theorem dX11_writeWord_22 : decode cX11_writeWord 22 = .ok (.bipush 96, 2) := by decide +kernel
theorem dX11_writeWord_24 : decode cX11_writeWord 24 = .ok (.iload 4, 2) := by decide +kernel
theorem dX11_writeWord_26 : decode cX11_writeWord 26 = .ok (.iadd, 1) := by decide +kernel
theorem dX11_writeWord_27 : decode cX11_writeWord 27 = .ok (.invokevirtual 325, 3) := by decide +kernel
theorem dX11_writeWord_30 : decode cX11_writeWord 30 = .ok (.iinc 3 (-5), 3) := by decide +kernel
theorem dX11_writeWord_33 : decode cX11_writeWord 33 = .ok (.goto (-30), 3) := by decide +kernel
theorem dX11_writeWord_36 : decode cX11_writeWord 36 = .ok (.return_, 1) := by decide +kernel
abbrev M_X11_writeWord : mM := (cX11_writeWord, 5, RX11, none, false, 1, 21, 0, 0)
theorem gX11_writeWord : cI yX11_writeWord M_X11_writeWord 1 := ⟨(wsl_61 _ (List.mem_of_getElem? (i := 21) rfl)), (wsl_61 _ (List.mem_of_getElem? (i := 22) rfl)), (wsl_1 _ (List.mem_of_getElem? (i := 2) rfl)), (wsl_61 _ (List.mem_of_getElem? (i := 23) rfl)), by decide +kernel⟩
noncomputable def fX11_writeWord_s3 (h0 : hH) (a0 a1 : Int) : hH × Int → Option ((hH × Int) ⊕ (hH)) := fun (h, l3) =>
  if l3 < 0 then
    some (.inr (h))
  else
    if iadD (w32 (lusD a1 l3)) 31 = 0 then
      some (.inl (h, w32 (l3 + (-5))))
    else
      (fX11_writeByte h a0 (w32 (96 + (iadD (w32 (lusD a1 l3)) 31)))).bind fun h27 =>
      some (.inl (h27, w32 (l3 + (-5))))
noncomputable def fX11_writeWord (h : hH) (a0 a1 : Int) : Option (hH) :=
  lpO (fX11_writeWord_s3 h a0 a1) (h, 30)
section M_X11_writeWord
variable {p : Program} {l : Launch} {e : Env} {R : Room} {s : State} {m : MethodId} {args : Array Value} {below : List Frame} {meth : Method} {c : Code} {D : va_G} {G : gG} {A : Nat → Prop} {H0 : Heap} {n0 : Int} {x : Option vV × hH} {h : hH}
set_option maxRecDepth 100000 in
set_option maxHeartbeats 4000000 in
theorem oX11_writeWord_s3 {h0 : hH} {a0 a1 l3 : Int} {K : (hH × Int) ⊕ (hH) → Prop} (k0 : ∀ r, K (.inr (r)) → x = (none, r)) (k1 : ∀ (h : hH) (l3 : Int), K (.inl (h, l3)) → Wq p l e R s m args below meth c D G A H0 true n0 M_X11_writeWord x 0 0 3 [(0, (21, a0)), (1, (1, a1)), (3, (0, l3))] [] h) {r : (hH × Int) ⊕ (hH)} (hr : fX11_writeWord_s3 h0 a0 a1 (h, l3) = some r) (hk : K r) : Wq p l e R s m args below meth c D G A H0 true n0 M_X11_writeWord x 0 0 3 [(0, (21, a0)), (1, (1, a1)), (3, (0, l3))] [] h := by
  unfold fX11_writeWord_s3 at hr
  refine r_iload_n dX11_writeWord_3 rfl 2 rfl (Or.inl rfl) ?_
  refine r_if_lt dX11_writeWord_4 (tgt := 36) (by decide) (fun hc => ?_) (fun hc => ?_)
  · have hr := ifp hr hc
    obtain rfl := Option.some.inj hr
    exact r_vret dX11_writeWord_36 rfl (k0 _ hk) ⟨rfl, rfl⟩
  · have hr := ifn hr hc
    refine r_lload_n dX11_writeWord_7 rfl 1 rfl ?_
    refine r_iload_n dX11_writeWord_8 rfl 2 rfl (Or.inl rfl) ?_
    refine r_lushr dX11_writeWord_9 ?_
    refine r_l2i dX11_writeWord_10 ?_
    refine r_bipush dX11_writeWord_11 (by decide) (by decide) ?_
    refine r_iand dX11_writeWord_13 ?_
    refine r_istore dX11_writeWord_14 (Or.inl rfl) (by decide) (lv' := [(4, (0, iadD (w32 (lusD a1 l3)) 31)), (0, (21, a0)), (1, (1, a1)), (3, (0, l3))]) rfl ?_
    refine r_iload dX11_writeWord_16 0 rfl (Or.inl rfl) ?_
    refine r_if_eq dX11_writeWord_18 (tgt := 30) (by decide) (fun hc => ?_) (fun hc => ?_)
    · have hr := ifp hr hc
      refine r_iinc (k := 3) (v := l3) dX11_writeWord_30 rfl (by decide) (lv' := [(3, (0, w32 (l3 + (-5)))), (4, (0, iadD (w32 (lusD a1 l3)) 31)), (0, (21, a0)), (1, (1, a1))]) rfl ?_
      refine r_goto dX11_writeWord_33 (tgt := 3) (by decide) ?_
      refine r_sub [2, 3, 0] (lv' := [(0, (21, a0)), (1, (1, a1)), (3, (0, w32 (l3 + (-5))))]) rfl ?_
      obtain rfl := Option.some.inj hr
      exact k1 _ _ hk
    · have hr := ifn hr hc
      refine r_aload_n dX11_writeWord_21 rfl 1 rfl (nl rfl) ?_
      refine r_bipush dX11_writeWord_22 (by decide) (by decide) ?_
      refine r_iload dX11_writeWord_24 0 rfl (Or.inl rfl) ?_
      refine r_iadd dX11_writeWord_26 ?_
      obtain ⟨h27, hg27, hr⟩ := bnd hr
      refine k_V (ci := 11) (o := a0) (T := TX11) (as := [(0, w32 (96 + (iadD (w32 (lusD a1 l3)) 31)))]) (rest := []) (X := (none, h27)) (oX11_writeByte hg27) gX11_writeByte rfl (by decide) rfl (wsl_62 _ (List.mem_of_getElem? (i := 0) rfl)) rfl dX11_writeWord_27 rfl ?_
      refine r_iinc (k := 3) (v := l3) dX11_writeWord_30 rfl (by decide) (lv' := [(3, (0, w32 (l3 + (-5)))), (4, (0, iadD (w32 (lusD a1 l3)) 31)), (0, (21, a0)), (1, (1, a1))]) rfl ?_
      refine r_goto dX11_writeWord_33 (tgt := 3) (by decide) ?_
      refine r_sub [2, 3, 0] (lv' := [(0, (21, a0)), (1, (1, a1)), (3, (0, w32 (l3 + (-5))))]) rfl ?_
      obtain rfl := Option.some.inj hr
      exact k1 _ _ hk
set_option maxRecDepth 100000 in
set_option maxHeartbeats 4000000 in
theorem oX11_writeWord_b0 {a0 a1 : Int} {K : hH → Prop} (k0 : ∀ r, K (r) → x = (none, r)) {r : hH} (hr : fX11_writeWord h a0 a1 = some r) (hk : K r) : Wq p l e R s m args below meth c D G A H0 true n0 M_X11_writeWord x 0 0 0 [(0, (21, a0)), (1, (1, a1))] [] h := by
  unfold fX11_writeWord at hr
  refine r_bipush dX11_writeWord_0 (by decide) (by decide) ?_
  refine r_istore_n dX11_writeWord_2 rfl (Or.inl rfl) (by decide) (lv' := [(3, (0, 30)), (0, (21, a0)), (1, (1, a1))]) rfl ?_
  refine r_sub [1, 2, 0] (lv' := [(0, (21, a0)), (1, (1, a1)), (3, (0, 30))]) rfl ?_
  exact lp_ok (w := fun (q : hH × Int) => Wq p l e R s m args below meth c D G A H0 true n0 M_X11_writeWord x 0 0 3 [(0, (21, a0)), (1, (1, a1)), (3, (0, q.2))] [] (q.1)) (K := K) (fun ⟨q0, q1⟩ r h1 h2 => oX11_writeWord_s3 (K := Sum.elim (fun (q : hH × Int) => Wq p l e R s m args below meth c D G A H0 true n0 M_X11_writeWord x 0 0 3 [(0, (21, a0)), (1, (1, a1)), (3, (0, q.2))] [] (q.1)) (K)) (fun r z => k0 r z) (fun _ _ z => z) h1 h2) hr hk
end M_X11_writeWord
theorem oX11_writeWord {l : Launch} {D : va_G} {G : gG} {h : hH} {a0 a1 : Int} {r : hH} (hr : fX11_writeWord h a0 a1 = some r) : Ctr l D G true yX11_writeWord M_X11_writeWord [(21, a0), (1, a1)] h (none, r) :=
  Ctr_of (by decide) rfl (fun z => by cases z) (nl rfl) (fun {p e R s m args below meth c A H0} => by
    exact oX11_writeWord_b0 (K := fun z9 => z9 = r) (fun r9 z => by rw [z]) hr rfl)
/-! X11_writeNumber -/
theorem dX11_writeNumber_0 : decode cX11_writeNumber 0 = .ok (.iload_n 1, 1) := by decide +kernel
theorem dX11_writeNumber_1 : decode cX11_writeNumber 1 = .ok (.ifCond .ge 10, 3) := by decide +kernel
theorem dX11_writeNumber_4 : decode cX11_writeNumber 4 = .ok (.aload_n 0, 1) := by decide +kernel
theorem dX11_writeNumber_5 : decode cX11_writeNumber 5 = .ok (.bipush 45, 2) := by decide +kernel
theorem dX11_writeNumber_7 : decode cX11_writeNumber 7 = .ok (.invokevirtual 325, 3) := by decide +kernel
theorem dX11_writeNumber_10 : decode cX11_writeNumber 10 = .ok (.return_, 1) := by decide +kernel
theorem dX11_writeNumber_11 : decode cX11_writeNumber 11 = .ok (.iload_n 1, 1) := by decide +kernel
theorem dX11_writeNumber_12 : decode cX11_writeNumber 12 = .ok (.bipush 9, 2) := by decide +kernel
theorem dX11_writeNumber_14 : decode cX11_writeNumber 14 = .ok (.if_icmp .le 14, 3) := by decide +kernel
theorem dX11_writeNumber_17 : decode cX11_writeNumber 17 = .ok (.aload_n 0, 1) := by decide +kernel
theorem dX11_writeNumber_18 : decode cX11_writeNumber 18 = .ok (.bipush 48, 2) := by decide +kernel
theorem dX11_writeNumber_20 : decode cX11_writeNumber 20 = .ok (.iload_n 1, 1) := by decide +kernel
theorem dX11_writeNumber_21 : decode cX11_writeNumber 21 = .ok (.bipush 10, 2) := by decide +kernel
theorem dX11_writeNumber_23 : decode cX11_writeNumber 23 = .ok (.idiv, 1) := by decide +kernel
theorem dX11_writeNumber_24 : decode cX11_writeNumber 24 = .ok (.iadd, 1) := by decide +kernel
theorem dX11_writeNumber_25 : decode cX11_writeNumber 25 = .ok (.invokevirtual 325, 3) := by decide +kernel
theorem dX11_writeNumber_28 : decode cX11_writeNumber 28 = .ok (.aload_n 0, 1) := by decide +kernel
theorem dX11_writeNumber_29 : decode cX11_writeNumber 29 = .ok (.bipush 48, 2) := by decide +kernel
theorem dX11_writeNumber_31 : decode cX11_writeNumber 31 = .ok (.iload_n 1, 1) := by decide +kernel
theorem dX11_writeNumber_32 : decode cX11_writeNumber 32 = .ok (.bipush 10, 2) := by decide +kernel
theorem dX11_writeNumber_34 : decode cX11_writeNumber 34 = .ok (.irem, 1) := by decide +kernel
theorem dX11_writeNumber_35 : decode cX11_writeNumber 35 = .ok (.iadd, 1) := by decide +kernel
theorem dX11_writeNumber_36 : decode cX11_writeNumber 36 = .ok (.invokevirtual 325, 3) := by decide +kernel
theorem dX11_writeNumber_39 : decode cX11_writeNumber 39 = .ok (.return_, 1) := by decide +kernel
abbrev M_X11_writeNumber : mM := (cX11_writeNumber, 2, RX11, none, false, 1, 21, 0, 0)
theorem gX11_writeNumber : cI yX11_writeNumber M_X11_writeNumber 1 := ⟨(wsl_62 _ (List.mem_of_getElem? (i := 5) rfl)), (wsl_62 _ (List.mem_of_getElem? (i := 6) rfl)), (wsl_1 _ (List.mem_of_getElem? (i := 2) rfl)), (wsl_62 _ (List.mem_of_getElem? (i := 7) rfl)), by decide +kernel⟩
noncomputable def fX11_writeNumber_b28 (h : hH) (a0 a1 : Int) : Option (hH) :=
  (gdz 10).bind fun _ =>
  (fX11_writeByte h a0 (w32 (48 + (irmD a1 10)))).bind fun h36 =>
  some h36
noncomputable def fX11_writeNumber (h : hH) (a0 a1 : Int) : Option (hH) :=
  if a1 < 0 then
    (fX11_writeByte h a0 45).bind fun h7 =>
    some h7
  else
    if 9 < a1 then
      (gdz 10).bind fun _ =>
      (fX11_writeByte h a0 (w32 (48 + (idvD a1 10)))).bind fun h25 =>
      fX11_writeNumber_b28 h25 a0 a1
    else
      fX11_writeNumber_b28 h a0 a1
section M_X11_writeNumber
variable {p : Program} {l : Launch} {e : Env} {R : Room} {s : State} {m : MethodId} {args : Array Value} {below : List Frame} {meth : Method} {c : Code} {D : va_G} {G : gG} {A : Nat → Prop} {H0 : Heap} {n0 : Int} {x : Option vV × hH} {h : hH}
set_option maxRecDepth 100000 in
set_option maxHeartbeats 4000000 in
theorem oX11_writeNumber_b28 {a0 a1 : Int} {K : hH → Prop} (k0 : ∀ r, K (r) → x = (none, r)) {r : hH} (hr : fX11_writeNumber_b28 h a0 a1 = some r) (hk : K r) : Wq p l e R s m args below meth c D G A H0 true n0 M_X11_writeNumber x 0 0 28 [(0, (21, a0)), (1, (0, a1))] [] h := by
  unfold fX11_writeNumber_b28 at hr
  refine r_aload_n dX11_writeNumber_28 rfl 0 rfl (nl rfl) ?_
  refine r_bipush dX11_writeNumber_29 (by decide) (by decide) ?_
  refine r_iload_n dX11_writeNumber_31 rfl 1 rfl (Or.inl rfl) ?_
  refine r_bipush dX11_writeNumber_32 (by decide) (by decide) ?_
  obtain ⟨z34, hg34, hr⟩ := bnd hr
  refine r_irem' dX11_writeNumber_34 hg34 ?_
  refine r_iadd dX11_writeNumber_35 ?_
  obtain ⟨h36, hg36, hr⟩ := bnd hr
  refine k_V (ci := 11) (o := a0) (T := TX11) (as := [(0, w32 (48 + (irmD a1 10)))]) (rest := []) (X := (none, h36)) (oX11_writeByte hg36) gX11_writeByte rfl (by decide) rfl (wsl_62 _ (List.mem_of_getElem? (i := 0) rfl)) rfl dX11_writeNumber_36 rfl ?_
  obtain rfl := Option.some.inj hr
  exact r_vret dX11_writeNumber_39 rfl (k0 _ hk) ⟨rfl, rfl⟩
set_option maxRecDepth 100000 in
set_option maxHeartbeats 4000000 in
theorem oX11_writeNumber_b0 {a0 a1 : Int} {K : hH → Prop} (k0 : ∀ r, K (r) → x = (none, r)) {r : hH} (hr : fX11_writeNumber h a0 a1 = some r) (hk : K r) : Wq p l e R s m args below meth c D G A H0 true n0 M_X11_writeNumber x 0 0 0 [(0, (21, a0)), (1, (0, a1))] [] h := by
  unfold fX11_writeNumber at hr
  refine r_iload_n dX11_writeNumber_0 rfl 1 rfl (Or.inl rfl) ?_
  refine r_if_ge dX11_writeNumber_1 (tgt := 11) (by decide) (fun hc => ?_) (fun hc => ?_)
  · have hr := ifn hr hc
    refine r_iload_n dX11_writeNumber_11 rfl 1 rfl (Or.inl rfl) ?_
    refine r_bipush dX11_writeNumber_12 (by decide) (by decide) ?_
    refine r_icmp_le dX11_writeNumber_14 (tgt := 28) (by decide) (fun hc => ?_) (fun hc => ?_)
    · have hr := ifn hr hc
      exact oX11_writeNumber_b28 (K := K) (fun r z => k0 r z) hr hk
    · have hr := ifp hr hc
      refine r_aload_n dX11_writeNumber_17 rfl 0 rfl (nl rfl) ?_
      refine r_bipush dX11_writeNumber_18 (by decide) (by decide) ?_
      refine r_iload_n dX11_writeNumber_20 rfl 1 rfl (Or.inl rfl) ?_
      refine r_bipush dX11_writeNumber_21 (by decide) (by decide) ?_
      obtain ⟨z23, hg23, hr⟩ := bnd hr
      refine r_idiv' dX11_writeNumber_23 hg23 ?_
      refine r_iadd dX11_writeNumber_24 ?_
      obtain ⟨h25, hg25, hr⟩ := bnd hr
      refine k_V (ci := 11) (o := a0) (T := TX11) (as := [(0, w32 (48 + (idvD a1 10)))]) (rest := []) (X := (none, h25)) (oX11_writeByte hg25) gX11_writeByte rfl (by decide) rfl (wsl_62 _ (List.mem_of_getElem? (i := 0) rfl)) rfl dX11_writeNumber_25 rfl ?_
      exact oX11_writeNumber_b28 (K := K) (fun r z => k0 r z) hr hk
  · have hr := ifp hr hc
    refine r_aload_n dX11_writeNumber_4 rfl 0 rfl (nl rfl) ?_
    refine r_bipush dX11_writeNumber_5 (by decide) (by decide) ?_
    obtain ⟨h7, hg7, hr⟩ := bnd hr
    refine k_V (ci := 11) (o := a0) (T := TX11) (as := [(0, 45)]) (rest := []) (X := (none, h7)) (oX11_writeByte hg7) gX11_writeByte rfl (by decide) rfl (wsl_62 _ (List.mem_of_getElem? (i := 0) rfl)) rfl dX11_writeNumber_7 rfl ?_
    obtain rfl := Option.some.inj hr
    exact r_vret dX11_writeNumber_10 rfl (k0 _ hk) ⟨rfl, rfl⟩
end M_X11_writeNumber
theorem oX11_writeNumber {l : Launch} {D : va_G} {G : gG} {h : hH} {a0 a1 : Int} {r : hH} (hr : fX11_writeNumber h a0 a1 = some r) : Ctr l D G true yX11_writeNumber M_X11_writeNumber [(21, a0), (0, a1)] h (none, r) :=
  Ctr_of (by decide) rfl (fun z => by cases z) (nl rfl) (fun {p e R s m args below meth c A H0} => by
    exact oX11_writeNumber_b0 (K := fun z9 => z9 = r) (fun r9 z => by rw [z]) hr rfl)
/-! X11_tag -/
theorem dX11_tag_0 : decode cX11_tag 0 = .ok (.aload_n 0, 1) := by decide +kernel
theorem dX11_tag_1 : decode cX11_tag 1 = .ok (.getfield 26, 3) := by decide +kernel
theorem dX11_tag_4 : decode cX11_tag 4 = .ok (.getfield 152, 3) := by decide +kernel
theorem dX11_tag_7 : decode cX11_tag 7 = .ok (.iload_n 1, 1) := by decide +kernel
theorem dX11_tag_8 : decode cX11_tag 8 = .ok (.invokevirtual 238, 3) := by decide +kernel
theorem dX11_tag_11 : decode cX11_tag 11 = .ok (.istore_n 2, 1) := by decide +kernel
theorem dX11_tag_12 : decode cX11_tag 12 = .ok (.iload_n 2, 1) := by decide +kernel
theorem dX11_tag_13 : decode cX11_tag 13 = .ok (.iconst (-1), 1) := by decide +kernel
theorem dX11_tag_14 : decode cX11_tag 14 = .ok (.if_icmp .ne 5, 3) := by decide +kernel
theorem dX11_tag_17 : decode cX11_tag 17 = .ok (.iconst (-1), 1) := by decide +kernel
theorem dX11_tag_18 : decode cX11_tag 18 = .ok (.ireturn, 1) := by decide +kernel
theorem dX11_tag_19 : decode cX11_tag 19 = .ok (.aload_n 0, 1) := by decide +kernel
theorem dX11_tag_20 : decode cX11_tag 20 = .ok (.getfield 26, 3) := by decide +kernel
theorem dX11_tag_23 : decode cX11_tag 23 = .ok (.getfield 152, 3) := by decide +kernel
theorem dX11_tag_26 : decode cX11_tag 26 = .ok (.iload_n 2, 1) := by decide +kernel
theorem dX11_tag_27 : decode cX11_tag 27 = .ok (.invokevirtual 241, 3) := by decide +kernel
theorem dX11_tag_30 : decode cX11_tag 30 = .ok (.istore_n 3, 1) := by decide +kernel
theorem dX11_tag_31 : decode cX11_tag 31 = .ok (.aload_n 0, 1) := by decide +kernel
theorem dX11_tag_32 : decode cX11_tag 32 = .ok (.iconst 0, 1) := by decide +kernel
theorem dX11_tag_33 : decode cX11_tag 33 = .ok (.putfield 314, 3) := by decide +kernel
theorem dX11_tag_36 : decode cX11_tag 36 = .ok (.aload_n 0, 1) := by decide +kernel
theorem dX11_tag_37 : decode cX11_tag 37 = .ok (.aload_n 0, 1) := by decide +kernel
theorem dX11_tag_38 : decode cX11_tag 38 = .ok (.getfield 19, 3) := by decide +kernel
theorem dX11_tag_41 : decode cX11_tag 41 = .ok (.iload_n 3, 1) := by decide +kernel
theorem dX11_tag_42 : decode cX11_tag 42 = .ok (.invokevirtual 317, 3) := by decide +kernel
theorem dX11_tag_45 : decode cX11_tag 45 = .ok (.invokevirtual 321, 3) := by decide +kernel
theorem dX11_tag_48 : decode cX11_tag 48 = .ok (.aload_n 0, 1) := by decide +kernel
theorem dX11_tag_49 : decode cX11_tag 49 = .ok (.bipush 32, 2) := by decide +kernel
theorem dX11_tag_51 : decode cX11_tag 51 = .ok (.invokevirtual 325, 3) := by decide +kernel
theorem dX11_tag_54 : decode cX11_tag 54 = .ok (.aload_n 0, 1) := by decide +kernel
theorem dX11_tag_55 : decode cX11_tag 55 = .ok (.iload_n 1, 1) := by decide +kernel
theorem dX11_tag_56 : decode cX11_tag 56 = .ok (.invokevirtual 328, 3) := by decide +kernel
theorem dX11_tag_59 : decode cX11_tag 59 = .ok (.iconst 0, 1) := by decide +kernel
theorem dX11_tag_60 : decode cX11_tag 60 = .ok (.istore 4, 2) := by decide +kernel
theorem dX11_tag_62 : decode cX11_tag 62 = .ok (.iload 4, 2) := by decide +kernel
theorem dX11_tag_64 : decode cX11_tag 64 = .ok (.aload_n 0, 1) := by decide +kernel
theorem dX11_tag_65 : decode cX11_tag 65 = .ok (.getfield 19, 3) := by decide +kernel
theorem dX11_tag_68 : decode cX11_tag 68 = .ok (.iload_n 3, 1) := by decide +kernel
theorem dX11_tag_69 : decode cX11_tag 69 = .ok (.invokevirtual 244, 3) := by decide +kernel
theorem dX11_tag_72 : decode cX11_tag 72 = .ok (.if_icmp .ge 32, 3) := by decide +kernel
theorem dX11_tag_75 : decode cX11_tag 75 = .ok (.aload_n 0, 1) := by decide +kernel
theorem dX11_tag_76 : decode cX11_tag 76 = .ok (.bipush 32, 2) := by decide +kernel
theorem dX11_tag_78 : decode cX11_tag 78 = .ok (.invokevirtual 325, 3) := by decide +kernel
theorem dX11_tag_81 : decode cX11_tag 81 = .ok (.aload_n 0, 1) := by decide +kernel
theorem dX11_tag_82 : decode cX11_tag 82 = .ok (.aload_n 0, 1) := by decide +kernel
theorem dX11_tag_83 : decode cX11_tag 83 = .ok (.getfield 26, 3) := by decide +kernel
theorem dX11_tag_86 : decode cX11_tag 86 = .ok (.getfield 152, 3) := by decide +kernel
theorem dX11_tag_89 : decode cX11_tag 89 = .ok (.iload_n 2, 1) := by decide +kernel
theorem dX11_tag_90 : decode cX11_tag 90 = .ok (.iload 4, 2) := by decide +kernel
theorem dX11_tag_92 : decode cX11_tag 92 = .ok (.invokevirtual 250, 3) := by decide +kernel
theorem dX11_tag_95 : decode cX11_tag 95 = .ok (.invokevirtual 328, 3) := by decide +kernel
theorem dX11_tag_98 : decode cX11_tag 98 = .ok (.iinc 4 1, 3) := by decide +kernel
theorem dX11_tag_101 : decode cX11_tag 101 = .ok (.goto (-39), 3) := by decide +kernel
theorem dX11_tag_104 : decode cX11_tag 104 = .ok (.aload_n 0, 1) := by decide +kernel
theorem dX11_tag_105 : decode cX11_tag 105 = .ok (.getfield 314, 3) := by decide +kernel
theorem dX11_tag_108 : decode cX11_tag 108 = .ok (.ireturn, 1) := by decide +kernel
abbrev M_X11_tag : mM := (cX11_tag, 5, RX11, some .int, false, 2, 45, 0, 0)
theorem gX11_tag : cI yX11_tag M_X11_tag 1 := ⟨(wsl_61 _ (List.mem_of_getElem? (i := 15) rfl)), (wsl_61 _ (List.mem_of_getElem? (i := 16) rfl)), (wsl_1 _ (List.mem_of_getElem? (i := 2) rfl)), (wsl_61 _ (List.mem_of_getElem? (i := 17) rfl)), by decide +kernel⟩
noncomputable def fX11_tag_s62 (h0 : hH) (a0 l2 l3 : Int) : hH × Int → Option ((hH × Int) ⊕ (Int × hH)) := fun (h, l4) =>
  (fX4_width h (h a0 1) l3).bind fun r69 =>
  if l4 < r69 then
    (fX11_writeByte h a0 32).bind fun h78 =>
    (fX3_value h78 (h78 (h78 a0 2) 0) l2 l4).bind fun r92 =>
    (fX11_writeNumber h78 a0 r92).bind fun h95 =>
    some (.inl (h95, w32 (l4 + 1)))
  else
    some (.inr ((h a0 15, h)))
noncomputable def fX11_tag (h : hH) (a0 a1 : Int) : Option (Int × hH) :=
  (fX3_slotOf h (h (h a0 2) 0) a1).bind fun r8 =>
  if r8 = -1 then
    some (-1, h)
  else
    (fX3_tableAt h (h (h a0 2) 0) r8).bind fun r27 =>
    (pput h a0 15 0).bind fun h33 =>
    (fX4_name h33 (h33 a0 1) r27).bind fun r42 =>
    (fX11_writeWord h33 a0 r42).bind fun h45 =>
    (fX11_writeByte h45 a0 32).bind fun h51 =>
    (fX11_writeNumber h51 a0 a1).bind fun h56 =>
    lpO (fX11_tag_s62 h56 a0 r8 r27) (h56, 0)
section M_X11_tag
variable {p : Program} {l : Launch} {e : Env} {R : Room} {s : State} {m : MethodId} {args : Array Value} {below : List Frame} {meth : Method} {c : Code} {D : va_G} {G : gG} {A : Nat → Prop} {H0 : Heap} {n0 : Int} {x : Option vV × hH} {h : hH}
set_option maxRecDepth 100000 in
set_option maxHeartbeats 4000000 in
theorem oX11_tag_s62 {h0 : hH} {a0 l2 l3 l4 : Int} {K : (hH × Int) ⊕ (Int × hH) → Prop} (k0 : ∀ r, K (.inr (r)) → x = (some (0, r.1), r.2)) (k1 : ∀ (h : hH) (l4 : Int), K (.inl (h, l4)) → Wq p l e R s m args below meth c D G A H0 true n0 M_X11_tag x 0 0 62 [(0, (21, a0)), (2, (0, l2)), (3, (0, l3)), (4, (0, l4))] [] h) {r : (hH × Int) ⊕ (Int × hH)} (hr : fX11_tag_s62 h0 a0 l2 l3 (h, l4) = some r) (hk : K r) : Wq p l e R s m args below meth c D G A H0 true n0 M_X11_tag x 0 0 62 [(0, (21, a0)), (2, (0, l2)), (3, (0, l3)), (4, (0, l4))] [] h := by
  unfold fX11_tag_s62 at hr
  refine r_iload dX11_tag_62 3 rfl (Or.inl rfl) ?_
  refine r_aload_n dX11_tag_64 rfl 0 rfl (nl rfl) ?_
  refine r_get 11 1 (o := a0) (w := (14, h a0 1)) (T := TX11) (ref := "FollowingRefs") rfl (by decide) rfl (by decide) inlX11 (wsl_1 _ (List.mem_of_getElem? (i := 20) rfl)) rfl dX11_tag_65 rfl ?_
  refine r_iload_n dX11_tag_68 rfl 2 rfl (Or.inl rfl) ?_
  obtain ⟨r69, hg69, hr⟩ := bnd hr
  refine k_V (ci := 4) (o := h a0 1) (T := TX4) (as := [(0, l3)]) (rest := [(0, l4)]) (X := (some (0, r69), h)) (oX4_width hg69) gX4_width rfl (by decide) rfl (wsl_55 _ (List.mem_of_getElem? (i := 3) rfl)) rfl dX11_tag_69 rfl ?_
  refine r_icmp_ge dX11_tag_72 (tgt := 104) (by decide) (fun hc => ?_) (fun hc => ?_)
  · have hr := ifn hr hc
    refine r_aload_n dX11_tag_104 rfl 0 rfl (nl rfl) ?_
    refine r_get 11 15 (o := a0) (w := (0, h a0 15)) (T := TX11) (ref := "FollowingRefs") rfl (by decide) rfl (by decide) inlX11 (wsl_61 _ (List.mem_of_getElem? (i := 18) rfl)) rfl dX11_tag_105 rfl ?_
    obtain rfl := Option.some.inj hr
    exact r_ret dX11_tag_108 rfl (Or.inl ⟨rfl, rfl⟩) (k0 _ hk) ⟨rfl, rfl⟩
  · have hr := ifp hr hc
    refine r_aload_n dX11_tag_75 rfl 0 rfl (nl rfl) ?_
    refine r_bipush dX11_tag_76 (by decide) (by decide) ?_
    obtain ⟨h78, hg78, hr⟩ := bnd hr
    refine k_V (ci := 11) (o := a0) (T := TX11) (as := [(0, 32)]) (rest := []) (X := (none, h78)) (oX11_writeByte hg78) gX11_writeByte rfl (by decide) rfl (wsl_62 _ (List.mem_of_getElem? (i := 0) rfl)) rfl dX11_tag_78 rfl ?_
    refine r_aload_n dX11_tag_81 rfl 0 rfl (nl rfl) ?_
    refine r_aload_n dX11_tag_82 rfl 0 rfl (nl rfl) ?_
    refine r_get 11 2 (o := a0) (w := (18, h78 a0 2)) (T := TX11) (ref := "FollowingRefs") rfl (by decide) rfl (by decide) inlX11 (wsl_2 _ (List.mem_of_getElem? (i := 0) rfl)) rfl dX11_tag_83 rfl ?_
    refine r_get 8 0 (o := h78 a0 2) (w := (13, h78 (h78 a0 2) 0)) (T := TX8) (ref := "FollowingRefs$State") rfl (by decide) rfl (by decide) inlX8 (wsl_29 _ (List.mem_of_getElem? (i := 9) rfl)) rfl dX11_tag_86 rfl ?_
    refine r_iload_n dX11_tag_89 rfl 1 rfl (Or.inl rfl) ?_
    refine r_iload dX11_tag_90 3 rfl (Or.inl rfl) ?_
    obtain ⟨r92, hg92, hr⟩ := bnd hr
    refine k_V (ci := 3) (o := h78 (h78 a0 2) 0) (T := TX3) (as := [(0, l2), (0, l4)]) (rest := [(21, a0)]) (X := (some (0, r92), h78)) (oX3_value hg92) gX3_value rfl (by decide) rfl (wsl_55 _ (List.mem_of_getElem? (i := 4) rfl)) rfl dX11_tag_92 rfl ?_
    obtain ⟨h95, hg95, hr⟩ := bnd hr
    refine k_V (ci := 11) (o := a0) (T := TX11) (as := [(0, r92)]) (rest := []) (X := (none, h95)) (oX11_writeNumber hg95) gX11_writeNumber rfl (by decide) rfl (wsl_62 _ (List.mem_of_getElem? (i := 4) rfl)) rfl dX11_tag_95 rfl ?_
    refine r_iinc (k := 3) (v := l4) dX11_tag_98 rfl (by decide) (lv' := [(4, (0, w32 (l4 + 1))), (0, (21, a0)), (2, (0, l2)), (3, (0, l3))]) rfl ?_
    refine r_goto dX11_tag_101 (tgt := 62) (by decide) ?_
    refine r_sub [1, 2, 3, 0] (lv' := [(0, (21, a0)), (2, (0, l2)), (3, (0, l3)), (4, (0, w32 (l4 + 1)))]) rfl ?_
    obtain rfl := Option.some.inj hr
    exact k1 _ _ hk
set_option maxRecDepth 100000 in
set_option maxHeartbeats 4000000 in
theorem oX11_tag_b0 {a0 a1 : Int} {K : Int × hH → Prop} (k0 : ∀ r, K (r) → x = (some (0, r.1), r.2)) {r : Int × hH} (hr : fX11_tag h a0 a1 = some r) (hk : K r) : Wq p l e R s m args below meth c D G A H0 true n0 M_X11_tag x 0 0 0 [(0, (21, a0)), (1, (0, a1))] [] h := by
  unfold fX11_tag at hr
  refine r_aload_n dX11_tag_0 rfl 0 rfl (nl rfl) ?_
  refine r_get 11 2 (o := a0) (w := (18, h a0 2)) (T := TX11) (ref := "FollowingRefs") rfl (by decide) rfl (by decide) inlX11 (wsl_2 _ (List.mem_of_getElem? (i := 0) rfl)) rfl dX11_tag_1 rfl ?_
  refine r_get 8 0 (o := h a0 2) (w := (13, h (h a0 2) 0)) (T := TX8) (ref := "FollowingRefs$State") rfl (by decide) rfl (by decide) inlX8 (wsl_29 _ (List.mem_of_getElem? (i := 9) rfl)) rfl dX11_tag_4 rfl ?_
  refine r_iload_n dX11_tag_7 rfl 1 rfl (Or.inl rfl) ?_
  obtain ⟨r8, hg8, hr⟩ := bnd hr
  refine k_V (ci := 3) (o := h (h a0 2) 0) (T := TX3) (as := [(0, a1)]) (rest := []) (X := (some (0, r8), h)) (oX3_slotOf hg8) gX3_slotOf rfl (by decide) rfl (wsl_54 _ (List.mem_of_getElem? (i := 3) rfl)) rfl dX11_tag_8 rfl ?_
  refine r_istore_n dX11_tag_11 rfl (Or.inl rfl) (by decide) (lv' := [(2, (0, r8)), (0, (21, a0)), (1, (0, a1))]) rfl ?_
  refine r_iload_n dX11_tag_12 rfl 0 rfl (Or.inl rfl) ?_
  refine r_iconst dX11_tag_13 (by decide) ?_
  refine r_icmp_ne dX11_tag_14 (tgt := 19) (by decide) (fun hc => ?_) (fun hc => ?_)
  · have hr := ifn hr hc
    refine r_aload_n dX11_tag_19 rfl 1 rfl (nl rfl) ?_
    refine r_get 11 2 (o := a0) (w := (18, h a0 2)) (T := TX11) (ref := "FollowingRefs") rfl (by decide) rfl (by decide) inlX11 (wsl_2 _ (List.mem_of_getElem? (i := 0) rfl)) rfl dX11_tag_20 rfl ?_
    refine r_get 8 0 (o := h a0 2) (w := (13, h (h a0 2) 0)) (T := TX8) (ref := "FollowingRefs$State") rfl (by decide) rfl (by decide) inlX8 (wsl_29 _ (List.mem_of_getElem? (i := 9) rfl)) rfl dX11_tag_23 rfl ?_
    refine r_iload_n dX11_tag_26 rfl 0 rfl (Or.inl rfl) ?_
    obtain ⟨r27, hg27, hr⟩ := bnd hr
    refine k_V (ci := 3) (o := h (h a0 2) 0) (T := TX3) (as := [(0, r8)]) (rest := []) (X := (some (0, r27), h)) (oX3_tableAt hg27) gX3_tableAt rfl (by decide) rfl (wsl_54 _ (List.mem_of_getElem? (i := 7) rfl)) rfl dX11_tag_27 rfl ?_
    refine r_istore_n dX11_tag_30 rfl (Or.inl rfl) (by decide) (lv' := [(3, (0, r27)), (2, (0, r8)), (0, (21, a0)), (1, (0, a1))]) rfl ?_
    refine r_aload_n dX11_tag_31 rfl 2 rfl (nl rfl) ?_
    refine r_iconst dX11_tag_32 (by decide) ?_
    obtain ⟨h33, hg33, hr⟩ := bnd hr
    refine r_put' 11 15 (t := 0) (ref := "FollowingRefs") hg33 rfl tyX11 tyX11_ok nmX11 rfl (by decide) rfl (by decide) inlX11 (wsl_61 _ (List.mem_of_getElem? (i := 18) rfl)) rfl rfl (by decide +kernel) (by decide) rfl (Or.inl ⟨rfl, rfl⟩) dX11_tag_33 ?_
    refine r_aload_n dX11_tag_36 rfl 2 rfl (nl rfl) ?_
    refine r_aload_n dX11_tag_37 rfl 2 rfl (nl rfl) ?_
    refine r_get 11 1 (o := a0) (w := (14, h33 a0 1)) (T := TX11) (ref := "FollowingRefs") rfl (by decide) rfl (by decide) inlX11 (wsl_1 _ (List.mem_of_getElem? (i := 20) rfl)) rfl dX11_tag_38 rfl ?_
    refine r_iload_n dX11_tag_41 rfl 0 rfl (Or.inl rfl) ?_
    obtain ⟨r42, hg42, hr⟩ := bnd hr
    refine k_V (ci := 4) (o := h33 a0 1) (T := TX4) (as := [(0, r27)]) (rest := [(21, a0)]) (X := (some (1, r42), h33)) (oX4_name hg42) gX4_name rfl (by decide) rfl (wsl_61 _ (List.mem_of_getElem? (i := 19) rfl)) rfl dX11_tag_42 rfl ?_
    obtain ⟨h45, hg45, hr⟩ := bnd hr
    refine k_V (ci := 11) (o := a0) (T := TX11) (as := [(1, r42)]) (rest := []) (X := (none, h45)) (oX11_writeWord hg45) gX11_writeWord rfl (by decide) rfl (wsl_61 _ (List.mem_of_getElem? (i := 20) rfl)) rfl dX11_tag_45 rfl ?_
    refine r_aload_n dX11_tag_48 rfl 2 rfl (nl rfl) ?_
    refine r_bipush dX11_tag_49 (by decide) (by decide) ?_
    obtain ⟨h51, hg51, hr⟩ := bnd hr
    refine k_V (ci := 11) (o := a0) (T := TX11) (as := [(0, 32)]) (rest := []) (X := (none, h51)) (oX11_writeByte hg51) gX11_writeByte rfl (by decide) rfl (wsl_62 _ (List.mem_of_getElem? (i := 0) rfl)) rfl dX11_tag_51 rfl ?_
    refine r_aload_n dX11_tag_54 rfl 2 rfl (nl rfl) ?_
    refine r_iload_n dX11_tag_55 rfl 3 rfl (Or.inl rfl) ?_
    obtain ⟨h56, hg56, hr⟩ := bnd hr
    refine k_V (ci := 11) (o := a0) (T := TX11) (as := [(0, a1)]) (rest := []) (X := (none, h56)) (oX11_writeNumber hg56) gX11_writeNumber rfl (by decide) rfl (wsl_62 _ (List.mem_of_getElem? (i := 4) rfl)) rfl dX11_tag_56 rfl ?_
    refine r_iconst dX11_tag_59 (by decide) ?_
    refine r_istore dX11_tag_60 (Or.inl rfl) (by decide) (lv' := [(4, (0, 0)), (3, (0, r27)), (2, (0, r8)), (0, (21, a0)), (1, (0, a1))]) rfl ?_
    refine r_sub [3, 2, 1, 0] (lv' := [(0, (21, a0)), (2, (0, r8)), (3, (0, r27)), (4, (0, 0))]) rfl ?_
    exact lp_ok (w := fun (q : hH × Int) => Wq p l e R s m args below meth c D G A H0 true n0 M_X11_tag x 0 0 62 [(0, (21, a0)), (2, (0, r8)), (3, (0, r27)), (4, (0, q.2))] [] (q.1)) (K := K) (fun ⟨q0, q1⟩ r h1 h2 => oX11_tag_s62 (K := Sum.elim (fun (q : hH × Int) => Wq p l e R s m args below meth c D G A H0 true n0 M_X11_tag x 0 0 62 [(0, (21, a0)), (2, (0, r8)), (3, (0, r27)), (4, (0, q.2))] [] (q.1)) (K)) (fun r z => k0 r z) (fun _ _ z => z) h1 h2) hr hk
  · have hr := ifp hr hc
    refine r_iconst dX11_tag_17 (by decide) ?_
    obtain rfl := Option.some.inj hr
    exact r_ret dX11_tag_18 rfl (Or.inl ⟨rfl, rfl⟩) (k0 _ hk) ⟨rfl, rfl⟩
end M_X11_tag
theorem oX11_tag {l : Launch} {D : va_G} {G : gG} {h : hH} {a0 a1 : Int} {r : Int × hH} (hr : fX11_tag h a0 a1 = some r) : Ctr l D G true yX11_tag M_X11_tag [(21, a0), (0, a1)] h (some (0, r.1), r.2) :=
  Ctr_of (by decide) rfl (fun z => by cases z) (nl rfl) (fun {p e R s m args below meth c A H0} => by
    exact oX11_tag_b0 (K := fun z9 => z9 = r) (fun r9 z => by rw [z]) hr rfl)
/-! X11_byteAt -/
theorem dX11_byteAt_0 : decode cX11_byteAt 0 = .ok (.iload_n 1, 1) := by decide +kernel
theorem dX11_byteAt_1 : decode cX11_byteAt 1 = .ok (.ifCond .lt 33, 3) := by decide +kernel
theorem dX11_byteAt_4 : decode cX11_byteAt 4 = .ok (.iload_n 1, 1) := by decide +kernel
theorem dX11_byteAt_5 : decode cX11_byteAt 5 = .ok (.aload_n 0, 1) := by decide +kernel
theorem dX11_byteAt_6 : decode cX11_byteAt 6 = .ok (.getfield 314, 3) := by decide +kernel
theorem dX11_byteAt_9 : decode cX11_byteAt 9 = .ok (.if_icmp .ge 25, 3) := by decide +kernel
theorem dX11_byteAt_12 : decode cX11_byteAt 12 = .ok (.iload_n 1, 1) := by decide +kernel
theorem dX11_byteAt_13 : decode cX11_byteAt 13 = .ok (.aload_n 0, 1) := by decide +kernel
theorem dX11_byteAt_14 : decode cX11_byteAt 14 = .ok (.getfield 91, 3) := by decide +kernel
theorem dX11_byteAt_17 : decode cX11_byteAt 17 = .ok (.arraylength, 1) := by decide +kernel
theorem dX11_byteAt_18 : decode cX11_byteAt 18 = .ok (.if_icmp .ge 16, 3) := by decide +kernel
theorem dX11_byteAt_21 : decode cX11_byteAt 21 = .ok (.aload_n 0, 1) := by decide +kernel
theorem dX11_byteAt_22 : decode cX11_byteAt 22 = .ok (.getfield 91, 3) := by decide +kernel
theorem dX11_byteAt_25 : decode cX11_byteAt 25 = .ok (.iload_n 1, 1) := by decide +kernel
theorem dX11_byteAt_26 : decode cX11_byteAt 26 = .ok (.baload, 1) := by decide +kernel
theorem dX11_byteAt_27 : decode cX11_byteAt 27 = .ok (.sipush 255, 3) := by decide +kernel
theorem dX11_byteAt_30 : decode cX11_byteAt 30 = .ok (.iand, 1) := by decide +kernel
theorem dX11_byteAt_31 : decode cX11_byteAt 31 = .ok (.goto 4, 3) := by decide +kernel
theorem dX11_byteAt_34 : decode cX11_byteAt 34 = .ok (.iconst (-1), 1) := by decide +kernel
theorem dX11_byteAt_35 : decode cX11_byteAt 35 = .ok (.ireturn, 1) := by decide +kernel
abbrev M_X11_byteAt : mM := (cX11_byteAt, 2, RX11, some .int, false, 0, 0, 0, 0)
theorem gX11_byteAt : cI yX11_byteAt M_X11_byteAt 1 := ⟨(wsl_63 _ (List.mem_of_getElem? (i := 3) rfl)), (wsl_63 _ (List.mem_of_getElem? (i := 4) rfl)), (wsl_1 _ (List.mem_of_getElem? (i := 2) rfl)), (wsl_63 _ (List.mem_of_getElem? (i := 5) rfl)), by decide +kernel⟩
noncomputable def fX11_byteAt (h : hH) (a0 a1 : Int) : Option (Int) :=
  if a1 < 0 then
    some (-1)
  else
    if a1 < h a0 15 then
      if a1 < h (h a0 14) (-1) then
        (aget h (h a0 14) a1).bind fun v26 =>
        some (iadD v26 255)
      else
        some (-1)
    else
      some (-1)
section M_X11_byteAt
variable {p : Program} {l : Launch} {e : Env} {R : Room} {s : State} {m : MethodId} {args : Array Value} {below : List Frame} {meth : Method} {c : Code} {D : va_G} {G : gG} {A : Nat → Prop} {H0 : Heap} {n0 : Int} {x : Option vV × hH} {h : hH}
set_option maxRecDepth 100000 in
set_option maxHeartbeats 4000000 in
theorem oX11_byteAt_b0 {a0 a1 : Int} {K : Int → Prop} (k0 : ∀ r, K (r) → x = (some (0, r), h)) {r : Int} (hr : fX11_byteAt h a0 a1 = some r) (hk : K r) : Wq p l e R s m args below meth c D G A H0 true n0 M_X11_byteAt x 0 0 0 [(0, (21, a0)), (1, (0, a1))] [] h := by
  unfold fX11_byteAt at hr
  refine r_iload_n dX11_byteAt_0 rfl 1 rfl (Or.inl rfl) ?_
  refine r_if_lt dX11_byteAt_1 (tgt := 34) (by decide) (fun hc => ?_) (fun hc => ?_)
  · have hr := ifp hr hc
    refine r_iconst dX11_byteAt_34 (by decide) ?_
    obtain rfl := Option.some.inj hr
    exact r_ret dX11_byteAt_35 rfl (Or.inl ⟨rfl, rfl⟩) (k0 _ hk) ⟨rfl, rfl⟩
  · have hr := ifn hr hc
    refine r_iload_n dX11_byteAt_4 rfl 1 rfl (Or.inl rfl) ?_
    refine r_aload_n dX11_byteAt_5 rfl 0 rfl (nl rfl) ?_
    refine r_get 11 15 (o := a0) (w := (0, h a0 15)) (T := TX11) (ref := "FollowingRefs") rfl (by decide) rfl (by decide) inlX11 (wsl_61 _ (List.mem_of_getElem? (i := 18) rfl)) rfl dX11_byteAt_6 rfl ?_
    refine r_icmp_ge dX11_byteAt_9 (tgt := 34) (by decide) (fun hc => ?_) (fun hc => ?_)
    · have hr := ifn hr hc
      refine r_iconst dX11_byteAt_34 (by decide) ?_
      obtain rfl := Option.some.inj hr
      exact r_ret dX11_byteAt_35 rfl (Or.inl ⟨rfl, rfl⟩) (k0 _ hk) ⟨rfl, rfl⟩
    · have hr := ifp hr hc
      refine r_iload_n dX11_byteAt_12 rfl 1 rfl (Or.inl rfl) ?_
      refine r_aload_n dX11_byteAt_13 rfl 0 rfl (nl rfl) ?_
      refine r_get 11 14 (o := a0) (w := (52, h a0 14)) (T := TX11) (ref := "FollowingRefs") rfl (by decide) rfl (by decide) inlX11 (wsl_3 _ (List.mem_of_getElem? (i := 5) rfl)) rfl dX11_byteAt_14 rfl ?_
      refine r_alen (t := 52) (by decide) (by decide) dX11_byteAt_17 ?_
      refine r_icmp_ge dX11_byteAt_18 (tgt := 34) (by decide) (fun hc => ?_) (fun hc => ?_)
      · have hr := ifn hr hc
        refine r_iconst dX11_byteAt_34 (by decide) ?_
        obtain rfl := Option.some.inj hr
        exact r_ret dX11_byteAt_35 rfl (Or.inl ⟨rfl, rfl⟩) (k0 _ hk) ⟨rfl, rfl⟩
      · have hr := ifp hr hc
        refine r_aload_n dX11_byteAt_21 rfl 0 rfl (nl rfl) ?_
        refine r_get 11 14 (o := a0) (w := (52, h a0 14)) (T := TX11) (ref := "FollowingRefs") rfl (by decide) rfl (by decide) inlX11 (wsl_3 _ (List.mem_of_getElem? (i := 5) rfl)) rfl dX11_byteAt_22 rfl ?_
        refine r_iload_n dX11_byteAt_25 rfl 1 rfl (Or.inl rfl) ?_
        obtain ⟨v26, hg26, hr⟩ := bnd hr
        refine r_bald dX11_byteAt_26 hg26 ?_
        refine r_sipush dX11_byteAt_27 (by decide) (by decide) ?_
        refine r_iand dX11_byteAt_30 ?_
        refine r_goto dX11_byteAt_31 (tgt := 35) (by decide) ?_
        obtain rfl := Option.some.inj hr
        exact r_ret dX11_byteAt_35 rfl (Or.inl ⟨rfl, rfl⟩) (k0 _ hk) ⟨rfl, rfl⟩
end M_X11_byteAt
theorem oX11_byteAt {l : Launch} {D : va_G} {G : gG} {h : hH} {a0 a1 : Int} {r : Int} (hr : fX11_byteAt h a0 a1 = some r) : Ctr l D G true yX11_byteAt M_X11_byteAt [(21, a0), (0, a1)] h (some (0, r), h) :=
  Ctr_of (by decide) rfl (fun z => by cases z) (nl rfl) (fun {p e R s m args below meth c A H0} => by
    exact oX11_byteAt_b0 (K := fun z9 => z9 = r) (fun r9 z => by rw [z]) hr rfl)
/-! X11_draw -/
theorem dX11_draw_0 : decode cX11_draw 0 = .ok (.aload_n 0, 1) := by decide +kernel
theorem dX11_draw_1 : decode cX11_draw 1 = .ok (.aload_n 0, 1) := by decide +kernel
theorem dX11_draw_2 : decode cX11_draw 2 = .ok (.getfield 331, 3) := by decide +kernel
theorem dX11_draw_5 : decode cX11_draw 5 = .ok (.ldc_w 354, 3) := by decide +kernel
theorem dX11_draw_8 : decode cX11_draw 8 = .ok (.imul, 1) := by decide +kernel
theorem dX11_draw_9 : decode cX11_draw 9 = .ok (.sipush 12345, 3) := by decide +kernel
theorem dX11_draw_12 : decode cX11_draw 12 = .ok (.iadd, 1) := by decide +kernel
theorem dX11_draw_13 : decode cX11_draw 13 = .ok (.putfield 331, 3) := by decide +kernel
theorem dX11_draw_16 : decode cX11_draw 16 = .ok (.iload_n 1, 1) := by decide +kernel
theorem dX11_draw_17 : decode cX11_draw 17 = .ok (.iconst 1, 1) := by decide +kernel
theorem dX11_draw_18 : decode cX11_draw 18 = .ok (.if_icmp .ge 7, 3) := by decide +kernel
theorem dX11_draw_21 : decode cX11_draw 21 = .ok (.iconst 0, 1) := by decide +kernel
theorem dX11_draw_22 : decode cX11_draw 22 = .ok (.goto 12, 3) := by decide +kernel
theorem dX11_draw_25 : decode cX11_draw 25 = .ok (.aload_n 0, 1) := by decide +kernel
theorem dX11_draw_26 : decode cX11_draw 26 = .ok (.getfield 331, 3) := by decide +kernel
theorem dX11_draw_29 : decode cX11_draw 29 = .ok (.bipush 8, 2) := by decide +kernel
theorem dX11_draw_31 : decode cX11_draw 31 = .ok (.iushr, 1) := by decide +kernel
theorem dX11_draw_32 : decode cX11_draw 32 = .ok (.iload_n 1, 1) := by decide +kernel
theorem dX11_draw_33 : decode cX11_draw 33 = .ok (.irem, 1) := by decide +kernel
theorem dX11_draw_34 : decode cX11_draw 34 = .ok (.ireturn, 1) := by decide +kernel
abbrev M_X11_draw : mM := (cX11_draw, 2, RX11, some .int, false, 0, 0, 0, 0)
theorem gX11_draw : cI yX11_draw M_X11_draw 1 := ⟨(wsl_63 _ (List.mem_of_getElem? (i := 20) rfl)), (wsl_63 _ (List.mem_of_getElem? (i := 21) rfl)), (wsl_1 _ (List.mem_of_getElem? (i := 2) rfl)), (wsl_63 _ (List.mem_of_getElem? (i := 22) rfl)), by decide +kernel⟩
noncomputable def fX11_draw (h : hH) (a0 a1 : Int) : Option (Int × hH) :=
  (pput h a0 18 (w32 ((w32 ((h a0 18) * 1103515245)) + 12345))).bind fun h13 =>
  if a1 < 1 then
    some (0, h13)
  else
    (gdz a1).bind fun _ =>
    some (irmD (iusD (h13 a0 18) 8) a1, h13)
section M_X11_draw
variable {p : Program} {l : Launch} {e : Env} {R : Room} {s : State} {m : MethodId} {args : Array Value} {below : List Frame} {meth : Method} {c : Code} {D : va_G} {G : gG} {A : Nat → Prop} {H0 : Heap} {n0 : Int} {x : Option vV × hH} {h : hH}
set_option maxRecDepth 100000 in
set_option maxHeartbeats 4000000 in
theorem oX11_draw_b0 {a0 a1 : Int} {K : Int × hH → Prop} (k0 : ∀ r, K (r) → x = (some (0, r.1), r.2)) {r : Int × hH} (hr : fX11_draw h a0 a1 = some r) (hk : K r) : Wq p l e R s m args below meth c D G A H0 true n0 M_X11_draw x 0 0 0 [(0, (21, a0)), (1, (0, a1))] [] h := by
  unfold fX11_draw at hr
  refine r_aload_n dX11_draw_0 rfl 0 rfl (nl rfl) ?_
  refine r_aload_n dX11_draw_1 rfl 0 rfl (nl rfl) ?_
  refine r_get 11 18 (o := a0) (w := (0, h a0 18)) (T := TX11) (ref := "FollowingRefs") rfl (by decide) rfl (by decide) inlX11 (wsl_63 _ (List.mem_of_getElem? (i := 14) rfl)) rfl dX11_draw_2 rfl ?_
  refine r_ldcw (v := 1103515245) dX11_draw_5 (by decide) (wsl_63 _ (List.mem_of_getElem? (i := 23) rfl)) ?_
  refine r_imul dX11_draw_8 ?_
  refine r_sipush dX11_draw_9 (by decide) (by decide) ?_
  refine r_iadd dX11_draw_12 ?_
  obtain ⟨h13, hg13, hr⟩ := bnd hr
  refine r_put' 11 18 (t := 0) (ref := "FollowingRefs") hg13 rfl tyX11 tyX11_ok nmX11 rfl (by decide) rfl (by decide) inlX11 (wsl_63 _ (List.mem_of_getElem? (i := 14) rfl)) rfl rfl (by decide +kernel) (by decide) rfl (Or.inl ⟨rfl, rfl⟩) dX11_draw_13 ?_
  refine r_iload_n dX11_draw_16 rfl 1 rfl (Or.inl rfl) ?_
  refine r_iconst dX11_draw_17 (by decide) ?_
  refine r_icmp_ge dX11_draw_18 (tgt := 25) (by decide) (fun hc => ?_) (fun hc => ?_)
  · have hr := ifn hr hc
    refine r_aload_n dX11_draw_25 rfl 0 rfl (nl rfl) ?_
    refine r_get 11 18 (o := a0) (w := (0, h13 a0 18)) (T := TX11) (ref := "FollowingRefs") rfl (by decide) rfl (by decide) inlX11 (wsl_63 _ (List.mem_of_getElem? (i := 14) rfl)) rfl dX11_draw_26 rfl ?_
    refine r_bipush dX11_draw_29 (by decide) (by decide) ?_
    refine r_iushr dX11_draw_31 ?_
    refine r_iload_n dX11_draw_32 rfl 1 rfl (Or.inl rfl) ?_
    obtain ⟨z33, hg33, hr⟩ := bnd hr
    refine r_irem' dX11_draw_33 hg33 ?_
    obtain rfl := Option.some.inj hr
    exact r_ret dX11_draw_34 rfl (Or.inl ⟨rfl, rfl⟩) (k0 _ hk) ⟨rfl, rfl⟩
  · have hr := ifp hr hc
    refine r_iconst dX11_draw_21 (by decide) ?_
    refine r_goto dX11_draw_22 (tgt := 34) (by decide) ?_
    obtain rfl := Option.some.inj hr
    exact r_ret dX11_draw_34 rfl (Or.inl ⟨rfl, rfl⟩) (k0 _ hk) ⟨rfl, rfl⟩
end M_X11_draw
theorem oX11_draw {l : Launch} {D : va_G} {G : gG} {h : hH} {a0 a1 : Int} {r : Int × hH} (hr : fX11_draw h a0 a1 = some r) : Ctr l D G true yX11_draw M_X11_draw [(21, a0), (0, a1)] h (some (0, r.1), r.2) :=
  Ctr_of (by decide) rfl (fun z => by cases z) (nl rfl) (fun {p e R s m args below meth c A H0} => by
    exact oX11_draw_b0 (K := fun z9 => z9 = r) (fun r9 z => by rw [z]) hr rfl)
/-! X11_drawLine -/
theorem dX11_drawLine_0 : decode cX11_drawLine 0 = .ok (.aload_n 0, 1) := by decide +kernel
theorem dX11_drawLine_1 : decode cX11_drawLine 1 = .ok (.bipush 6, 2) := by decide +kernel
theorem dX11_drawLine_3 : decode cX11_drawLine 3 = .ok (.invokevirtual 344, 3) := by decide +kernel
theorem dX11_drawLine_6 : decode cX11_drawLine 6 = .ok (.istore_n 1, 1) := by decide +kernel
theorem dX11_drawLine_7 : decode cX11_drawLine 7 = .ok (.aload_n 0, 1) := by decide +kernel
theorem dX11_drawLine_8 : decode cX11_drawLine 8 = .ok (.aload_n 0, 1) := by decide +kernel
theorem dX11_drawLine_9 : decode cX11_drawLine 9 = .ok (.getfield 19, 3) := by decide +kernel
theorem dX11_drawLine_12 : decode cX11_drawLine 12 = .ok (.getfield 228, 3) := by decide +kernel
theorem dX11_drawLine_15 : decode cX11_drawLine 15 = .ok (.invokevirtual 344, 3) := by decide +kernel
theorem dX11_drawLine_18 : decode cX11_drawLine 18 = .ok (.istore_n 2, 1) := by decide +kernel
theorem dX11_drawLine_19 : decode cX11_drawLine 19 = .ok (.aload_n 0, 1) := by decide +kernel
theorem dX11_drawLine_20 : decode cX11_drawLine 20 = .ok (.getfield 19, 3) := by decide +kernel
theorem dX11_drawLine_23 : decode cX11_drawLine 23 = .ok (.iload_n 2, 1) := by decide +kernel
theorem dX11_drawLine_24 : decode cX11_drawLine 24 = .ok (.invokevirtual 244, 3) := by decide +kernel
theorem dX11_drawLine_27 : decode cX11_drawLine 27 = .ok (.istore_n 3, 1) := by decide +kernel
theorem dX11_drawLine_28 : decode cX11_drawLine 28 = .ok (.iload_n 1, 1) := by decide +kernel
theorem dX11_drawLine_29 : decode cX11_drawLine 29 = .ok (.iconst 3, 1) := by decide +kernel
theorem dX11_drawLine_30 : decode cX11_drawLine 30 = .ok (.if_icmp .ge 9, 3) := by decide +kernel
theorem dX11_drawLine_33 : decode cX11_drawLine 33 = .ok (.sipush 141, 3) := by decide +kernel
theorem dX11_drawLine_36 : decode cX11_drawLine 36 = .ok (.goto 44, 3) := by decide +kernel
theorem dX11_drawLine_39 : decode cX11_drawLine 39 = .ok (.iload_n 1, 1) := by decide +kernel
theorem dX11_drawLine_40 : decode cX11_drawLine 40 = .ok (.iconst 3, 1) := by decide +kernel
theorem dX11_drawLine_41 : decode cX11_drawLine 41 = .ok (.if_icmp .ne 9, 3) := by decide +kernel
theorem dX11_drawLine_44 : decode cX11_drawLine 44 = .ok (.sipush 142, 3) := by decide +kernel
theorem dX11_drawLine_47 : decode cX11_drawLine 47 = .ok (.goto 33, 3) := by decide +kernel
theorem dX11_drawLine_50 : decode cX11_drawLine 50 = .ok (.iload_n 1, 1) := by decide +kernel
theorem dX11_drawLine_51 : decode cX11_drawLine 51 = .ok (.iconst 4, 1) := by decide +kernel
theorem dX11_drawLine_52 : decode cX11_drawLine 52 = .ok (.if_icmp .ne 9, 3) := by decide +kernel
theorem dX11_drawLine_55 : decode cX11_drawLine 55 = .ok (.sipush 145, 3) := by decide +kernel
theorem dX11_drawLine_58 : decode cX11_drawLine 58 = .ok (.goto 22, 3) := by decide +kernel
theorem dX11_drawLine_61 : decode cX11_drawLine 61 = .ok (.aload_n 0, 1) := by decide +kernel
theorem dX11_drawLine_62 : decode cX11_drawLine 62 = .ok (.getfield 26, 3) := by decide +kernel
theorem dX11_drawLine_65 : decode cX11_drawLine 65 = .ok (.getfield 203, 3) := by decide +kernel
theorem dX11_drawLine_68 : decode cX11_drawLine 68 = .ok (.ifCond .eq 9, 3) := by decide +kernel
theorem dX11_drawLine_71 : decode cX11_drawLine 71 = .ok (.sipush 147, 3) := by decide +kernel
theorem dX11_drawLine_74 : decode cX11_drawLine 74 = .ok (.goto 6, 3) := by decide +kernel
theorem dX11_drawLine_77 : decode cX11_drawLine 77 = .ok (.sipush 146, 3) := by decide +kernel
theorem dX11_drawLine_80 : decode cX11_drawLine 80 = .ok (.istore 4, 2) := by decide +kernel
theorem dX11_drawLine_82 : decode cX11_drawLine 82 = .ok (.aload_n 0, 1) := by decide +kernel
theorem dX11_drawLine_83 : decode cX11_drawLine 83 = .ok (.getfield 58, 3) := by decide +kernel
theorem dX11_drawLine_86 : decode cX11_drawLine 86 = .ok (.iconst 0, 1) := by decide +kernel
theorem dX11_drawLine_87 : decode cX11_drawLine 87 = .ok (.iload 4, 2) := by decide +kernel
theorem dX11_drawLine_89 : decode cX11_drawLine 89 = .ok (.iload_n 2, 1) := by decide +kernel
theorem dX11_drawLine_90 : decode cX11_drawLine 90 = .ok (.invokevirtual 347, 3) := by decide +kernel
theorem dX11_drawLine_93 : decode cX11_drawLine 93 = .ok (.iload 4, 2) := by decide +kernel
theorem dX11_drawLine_95 : decode cX11_drawLine 95 = .ok (.sipush 141, 3) := by decide +kernel
theorem dX11_drawLine_98 : decode cX11_drawLine 98 = .ok (.if_icmp .ne 52, 3) := by decide +kernel
theorem dX11_drawLine_101 : decode cX11_drawLine 101 = .ok (.iconst 0, 1) := by decide +kernel
theorem dX11_drawLine_102 : decode cX11_drawLine 102 = .ok (.istore 5, 2) := by decide +kernel
theorem dX11_drawLine_104 : decode cX11_drawLine 104 = .ok (.iload 5, 2) := by decide +kernel
theorem dX11_drawLine_106 : decode cX11_drawLine 106 = .ok (.iload_n 3, 1) := by decide +kernel
theorem dX11_drawLine_107 : decode cX11_drawLine 107 = .ok (.if_icmp .ge 40, 3) := by decide +kernel
theorem dX11_drawLine_110 : decode cX11_drawLine 110 = .ok (.aload_n 0, 1) := by decide +kernel
theorem dX11_drawLine_111 : decode cX11_drawLine 111 = .ok (.iconst 5, 1) := by decide +kernel
theorem dX11_drawLine_112 : decode cX11_drawLine 112 = .ok (.invokevirtual 344, 3) := by decide +kernel
theorem dX11_drawLine_115 : decode cX11_drawLine 115 = .ok (.istore 6, 2) := by decide +kernel
theorem dX11_drawLine_117 : decode cX11_drawLine 117 = .ok (.aload_n 0, 1) := by decide +kernel
theorem dX11_drawLine_118 : decode cX11_drawLine 118 = .ok (.getfield 58, 3) := by decide +kernel
theorem dX11_drawLine_121 : decode cX11_drawLine 121 = .ok (.iconst 0, 1) := by decide +kernel
theorem dX11_drawLine_122 : decode cX11_drawLine 122 = .ok (.iconst 3, 1) := by decide +kernel
theorem dX11_drawLine_123 : decode cX11_drawLine 123 = .ok (.iload 5, 2) := by decide +kernel
theorem dX11_drawLine_125 : decode cX11_drawLine 125 = .ok (.iadd, 1) := by decide +kernel
theorem dX11_drawLine_126 : decode cX11_drawLine 126 = .ok (.iload 6, 2) := by decide +kernel
theorem dX11_drawLine_128 : decode cX11_drawLine 128 = .ok (.iconst 4, 1) := by decide +kernel
theorem dX11_drawLine_129 : decode cX11_drawLine 129 = .ok (.if_icmp .ne 7, 3) := by decide +kernel
theorem dX11_drawLine_132 : decode cX11_drawLine 132 = .ok (.iconst (-1), 1) := by decide +kernel
theorem dX11_drawLine_133 : decode cX11_drawLine 133 = .ok (.goto 5, 3) := by decide +kernel
theorem dX11_drawLine_136 : decode cX11_drawLine 136 = .ok (.iload 6, 2) := by decide +kernel
theorem dX11_drawLine_138 : decode cX11_drawLine 138 = .ok (.invokevirtual 340, 3) := by decide +kernel
theorem dX11_drawLine_141 : decode cX11_drawLine 141 = .ok (.iinc 5 1, 3) := by decide +kernel
theorem dX11_drawLine_144 : decode cX11_drawLine 144 = .ok (.goto (-40), 3) := by decide +kernel
theorem dX11_drawLine_147 : decode cX11_drawLine 147 = .ok (.goto 80, 3) := by decide +kernel
theorem dX11_drawLine_150 : decode cX11_drawLine 150 = .ok (.iload 4, 2) := by decide +kernel
theorem dX11_drawLine_152 : decode cX11_drawLine 152 = .ok (.sipush 142, 3) := by decide +kernel
theorem dX11_drawLine_155 : decode cX11_drawLine 155 = .ok (.if_icmp .eq 11, 3) := by decide +kernel
theorem dX11_drawLine_158 : decode cX11_drawLine 158 = .ok (.iload 4, 2) := by decide +kernel
theorem dX11_drawLine_160 : decode cX11_drawLine 160 = .ok (.sipush 145, 3) := by decide +kernel
theorem dX11_drawLine_163 : decode cX11_drawLine 163 = .ok (.if_icmp .ne 64, 3) := by decide +kernel
theorem dX11_drawLine_166 : decode cX11_drawLine 166 = .ok (.aload_n 0, 1) := by decide +kernel
theorem dX11_drawLine_167 : decode cX11_drawLine 167 = .ok (.iload_n 3, 1) := by decide +kernel
theorem dX11_drawLine_168 : decode cX11_drawLine 168 = .ok (.invokevirtual 344, 3) := by decide +kernel
theorem dX11_drawLine_171 : decode cX11_drawLine 171 = .ok (.istore 5, 2) := by decide +kernel
theorem dX11_drawLine_173 : decode cX11_drawLine 173 = .ok (.aload_n 0, 1) := by decide +kernel
theorem dX11_drawLine_174 : decode cX11_drawLine 174 = .ok (.getfield 58, 3) := by decide +kernel
theorem dX11_drawLine_177 : decode cX11_drawLine 177 = .ok (.iconst 0, 1) := by decide +kernel
theorem dX11_drawLine_178 : decode cX11_drawLine 178 = .ok (.iload 5, 2) := by decide +kernel
theorem dX11_drawLine_180 : decode cX11_drawLine 180 = .ok (.bipush 61, 2) := by decide +kernel
theorem dX11_drawLine_182 : decode cX11_drawLine 182 = .ok (.aload_n 0, 1) := by decide +kernel
theorem dX11_drawLine_183 : decode cX11_drawLine 183 = .ok (.iconst 4, 1) := by decide +kernel
theorem dX11_drawLine_184 : decode cX11_drawLine 184 = .ok (.invokevirtual 344, 3) := by decide +kernel
theorem dX11_drawLine_187 : decode cX11_drawLine 187 = .ok (.invokevirtual 350, 3) := by decide +kernel
theorem dX11_drawLine_190 : decode cX11_drawLine 190 = .ok (.aload_n 0, 1) := by decide +kernel
theorem dX11_drawLine_191 : decode cX11_drawLine 191 = .ok (.getfield 58, 3) := by decide +kernel
theorem dX11_drawLine_194 : decode cX11_drawLine 194 = .ok (.iconst 0, 1) := by decide +kernel
theorem dX11_drawLine_195 : decode cX11_drawLine 195 = .ok (.iconst 3, 1) := by decide +kernel
theorem dX11_drawLine_196 : decode cX11_drawLine 196 = .ok (.iload 5, 2) := by decide +kernel
theorem dX11_drawLine_198 : decode cX11_drawLine 198 = .ok (.invokevirtual 340, 3) := by decide +kernel
theorem dX11_drawLine_201 : decode cX11_drawLine 201 = .ok (.aload_n 0, 1) := by decide +kernel
theorem dX11_drawLine_202 : decode cX11_drawLine 202 = .ok (.getfield 58, 3) := by decide +kernel
theorem dX11_drawLine_205 : decode cX11_drawLine 205 = .ok (.iconst 0, 1) := by decide +kernel
theorem dX11_drawLine_206 : decode cX11_drawLine 206 = .ok (.iconst 4, 1) := by decide +kernel
theorem dX11_drawLine_207 : decode cX11_drawLine 207 = .ok (.iload 4, 2) := by decide +kernel
theorem dX11_drawLine_209 : decode cX11_drawLine 209 = .ok (.sipush 145, 3) := by decide +kernel
theorem dX11_drawLine_212 : decode cX11_drawLine 212 = .ok (.if_icmp .ne 11, 3) := by decide +kernel
theorem dX11_drawLine_215 : decode cX11_drawLine 215 = .ok (.aload_n 0, 1) := by decide +kernel
theorem dX11_drawLine_216 : decode cX11_drawLine 216 = .ok (.iconst 4, 1) := by decide +kernel
theorem dX11_drawLine_217 : decode cX11_drawLine 217 = .ok (.invokevirtual 344, 3) := by decide +kernel
theorem dX11_drawLine_220 : decode cX11_drawLine 220 = .ok (.goto 4, 3) := by decide +kernel
theorem dX11_drawLine_223 : decode cX11_drawLine 223 = .ok (.iconst (-1), 1) := by decide +kernel
theorem dX11_drawLine_224 : decode cX11_drawLine 224 = .ok (.invokevirtual 340, 3) := by decide +kernel
theorem dX11_drawLine_227 : decode cX11_drawLine 227 = .ok (.return_, 1) := by decide +kernel
abbrev M_X11_drawLine : mM := (cX11_drawLine, 7, RX11, none, false, 3, 71, 0, 0)
theorem gX11_drawLine : cI yX11_drawLine M_X11_drawLine 0 := ⟨(wsl_63 _ (List.mem_of_getElem? (i := 16) rfl)), (wsl_63 _ (List.mem_of_getElem? (i := 17) rfl)), (wsl_1 _ (List.mem_of_getElem? (i := 2) rfl)), (wsl_63 _ (List.mem_of_getElem? (i := 18) rfl)), by decide +kernel⟩
noncomputable def fX11_drawLine_b138 (h : hH) (a0 l3 l5 s0 s1 s2 s3 : Int) : Option ((hH × Int) ⊕ (hH)) :=
  (fX2_setPart h s3 s2 s1 s0).bind fun h138 =>
  some (.inl (h138, w32 (l5 + 1)))
noncomputable def fX11_drawLine_s104 (h0 : hH) (a0 l3 : Int) : hH × Int → Option ((hH × Int) ⊕ (hH)) := fun (h, l5) =>
  if l5 < l3 then
    (fX11_draw h a0 5).bind fun q112 =>
    if q112.1 = 4 then
      fX11_drawLine_b138 q112.2 a0 l3 l5 (-1) (w32 (3 + l5)) 0 (q112.2 a0 6)
    else
      fX11_drawLine_b138 q112.2 a0 l3 l5 q112.1 (w32 (3 + l5)) 0 (q112.2 a0 6)
  else
    some (.inr (h))
noncomputable def fX11_drawLine_b224 (h : hH) (s0 s1 s2 s3 : Int) : Option (hH) :=
  (fX2_setPart h s3 s2 s1 s0).bind fun h224 =>
  some h224
noncomputable def fX11_drawLine_b166 (h : hH) (a0 l3 l4 : Int) : Option (hH) :=
  (fX11_draw h a0 l3).bind fun q168 =>
  (fX11_draw q168.2 a0 4).bind fun q184 =>
  (fX2_addCond q184.2 (q168.2 a0 6) 0 q168.1 61 q184.1).bind fun h187 =>
  (fX2_setPart h187 (h187 a0 6) 0 3 q168.1).bind fun h198 =>
  if l4 = 145 then
    (fX11_draw h198 a0 4).bind fun q217 =>
    fX11_drawLine_b224 q217.2 q217.1 4 0 (h198 a0 6)
  else
    fX11_drawLine_b224 h198 (-1) 4 0 (h198 a0 6)
noncomputable def fX11_drawLine_b80 (h : hH) (a0 l2 l3 s0 : Int) : Option (hH) :=
  (fX2_startLine h (h a0 6) 0 s0 l2).bind fun h90 =>
  if s0 = 141 then
    lpO (fX11_drawLine_s104 h90 a0 l3) (h90, 0)
  else
    if s0 = 142 then
      fX11_drawLine_b166 h90 a0 l3 s0
    else
      if s0 = 145 then
        fX11_drawLine_b166 h90 a0 l3 s0
      else
        some h90
noncomputable def fX11_drawLine (h : hH) (a0 : Int) : Option (hH) :=
  (fX11_draw h a0 6).bind fun q3 =>
  (fX11_draw q3.2 a0 (q3.2 (q3.2 a0 1) 0)).bind fun q15 =>
  (fX4_width q15.2 (q15.2 a0 1) q15.1).bind fun r24 =>
  if q3.1 < 3 then
    fX11_drawLine_b80 q15.2 a0 q15.1 r24 141
  else
    if q3.1 = 3 then
      fX11_drawLine_b80 q15.2 a0 q15.1 r24 142
    else
      if q3.1 = 4 then
        fX11_drawLine_b80 q15.2 a0 q15.1 r24 145
      else
        if q15.2 (q15.2 a0 2) 2 = 0 then
          fX11_drawLine_b80 q15.2 a0 q15.1 r24 146
        else
          fX11_drawLine_b80 q15.2 a0 q15.1 r24 147
section M_X11_drawLine
variable {p : Program} {l : Launch} {e : Env} {R : Room} {s : State} {m : MethodId} {args : Array Value} {below : List Frame} {meth : Method} {c : Code} {D : va_G} {G : gG} {A : Nat → Prop} {H0 : Heap} {n0 : Int} {x : Option vV × hH} {h : hH}
set_option maxRecDepth 100000 in
set_option maxHeartbeats 4000000 in
theorem oX11_drawLine_b138 {a0 l3 l5 s0 s1 s2 s3 : Int} {K : (hH × Int) ⊕ (hH) → Prop} (k0 : ∀ r, K (.inr (r)) → x = (none, r)) (k1 : ∀ (h : hH) (l5 : Int), K (.inl (h, l5)) → Wq p l e R s m args below meth c D G A H0 true n0 M_X11_drawLine x 0 0 104 [(0, (21, a0)), (3, (0, l3)), (5, (0, l5))] [] h) {r : (hH × Int) ⊕ (hH)} (hr : fX11_drawLine_b138 h a0 l3 l5 s0 s1 s2 s3 = some r) (hk : K r) : Wq p l e R s m args below meth c D G A H0 true n0 M_X11_drawLine x 0 0 138 [(0, (21, a0)), (3, (0, l3)), (5, (0, l5))] [(0, s0), (0, s1), (2, s2), (12, s3)] h := by
  unfold fX11_drawLine_b138 at hr
  refine r_scast 2 (v := (2, s2)) (w := (0, s2)) rfl zc hTz (st' := [(0, s0), (0, s1), (0, s2), (12, s3)]) rfl ?_
  obtain ⟨h138, hg138, hr⟩ := bnd hr
  refine k_V (ci := 2) (o := s3) (T := TX2) (as := [(0, s2), (0, s1), (0, s0)]) (rest := []) (X := (none, h138)) (oX2_setPart hg138) gX2_setPart rfl (by decide) rfl (wsl_64 _ (List.mem_of_getElem? (i := 1) rfl)) rfl dX11_drawLine_138 rfl ?_
  refine r_iinc (k := 2) (v := l5) dX11_drawLine_141 rfl (by decide) (lv' := [(5, (0, w32 (l5 + 1))), (0, (21, a0)), (3, (0, l3))]) rfl ?_
  refine r_goto dX11_drawLine_144 (tgt := 104) (by decide) ?_
  refine r_sub [1, 2, 0] (lv' := [(0, (21, a0)), (3, (0, l3)), (5, (0, w32 (l5 + 1)))]) rfl ?_
  obtain rfl := Option.some.inj hr
  exact k1 _ _ hk
set_option maxRecDepth 100000 in
set_option maxHeartbeats 4000000 in
theorem oX11_drawLine_s104 {h0 : hH} {a0 l3 l5 : Int} {K : (hH × Int) ⊕ (hH) → Prop} (k0 : ∀ r, K (.inr (r)) → x = (none, r)) (k1 : ∀ (h : hH) (l5 : Int), K (.inl (h, l5)) → Wq p l e R s m args below meth c D G A H0 true n0 M_X11_drawLine x 0 0 104 [(0, (21, a0)), (3, (0, l3)), (5, (0, l5))] [] h) {r : (hH × Int) ⊕ (hH)} (hr : fX11_drawLine_s104 h0 a0 l3 (h, l5) = some r) (hk : K r) : Wq p l e R s m args below meth c D G A H0 true n0 M_X11_drawLine x 0 0 104 [(0, (21, a0)), (3, (0, l3)), (5, (0, l5))] [] h := by
  unfold fX11_drawLine_s104 at hr
  refine r_iload dX11_drawLine_104 2 rfl (Or.inl rfl) ?_
  refine r_iload_n dX11_drawLine_106 rfl 1 rfl (Or.inl rfl) ?_
  refine r_icmp_ge dX11_drawLine_107 (tgt := 147) (by decide) (fun hc => ?_) (fun hc => ?_)
  · have hr := ifn hr hc
    refine r_goto dX11_drawLine_147 (tgt := 227) (by decide) ?_
    obtain rfl := Option.some.inj hr
    exact r_vret dX11_drawLine_227 rfl (k0 _ hk) ⟨rfl, rfl⟩
  · have hr := ifp hr hc
    refine r_aload_n dX11_drawLine_110 rfl 0 rfl (nl rfl) ?_
    refine r_iconst dX11_drawLine_111 (by decide) ?_
    obtain ⟨q112, hg112, hr⟩ := bnd hr
    refine k_V (ci := 11) (o := a0) (T := TX11) (as := [(0, 5)]) (rest := []) (X := (some (0, q112.1), q112.2)) (oX11_draw hg112) gX11_draw rfl (by decide) rfl (wsl_63 _ (List.mem_of_getElem? (i := 19) rfl)) rfl dX11_drawLine_112 rfl ?_
    refine r_istore dX11_drawLine_115 (Or.inl rfl) (by decide) (lv' := [(6, (0, q112.1)), (0, (21, a0)), (3, (0, l3)), (5, (0, l5))]) rfl ?_
    refine r_aload_n dX11_drawLine_117 rfl 1 rfl (nl rfl) ?_
    refine r_get 11 6 (o := a0) (w := (12, q112.2 a0 6)) (T := TX11) (ref := "FollowingRefs") rfl (by decide) rfl (by decide) inlX11 (wsl_2 _ (List.mem_of_getElem? (i := 16) rfl)) rfl dX11_drawLine_118 rfl ?_
    refine r_iconst dX11_drawLine_121 (by decide) ?_
    refine r_iconst dX11_drawLine_122 (by decide) ?_
    refine r_iload dX11_drawLine_123 3 rfl (Or.inl rfl) ?_
    refine r_iadd dX11_drawLine_125 ?_
    refine r_iload dX11_drawLine_126 0 rfl (Or.inl rfl) ?_
    refine r_iconst dX11_drawLine_128 (by decide) ?_
    refine r_icmp_ne dX11_drawLine_129 (tgt := 136) (by decide) (fun hc => ?_) (fun hc => ?_)
    · have hr := ifn hr hc
      refine r_iload dX11_drawLine_136 0 rfl (Or.inl rfl) ?_
      refine r_sub [1, 2, 3] (lv' := [(0, (21, a0)), (3, (0, l3)), (5, (0, l5))]) rfl ?_
      refine r_scast 2 (v := (0, 0)) (w := (2, 0)) rfl cz (fun _ => Or.inl rfl) (st' := [(0, q112.1), (0, w32 (3 + l5)), (2, 0), (12, q112.2 a0 6)]) rfl ?_
      exact oX11_drawLine_b138 (K := K) (fun r z => k0 r z) (fun _ _ z => k1 _ _ z) hr hk
    · have hr := ifp hr hc
      refine r_iconst dX11_drawLine_132 (by decide) ?_
      refine r_goto dX11_drawLine_133 (tgt := 138) (by decide) ?_
      refine r_sub [1, 2, 3] (lv' := [(0, (21, a0)), (3, (0, l3)), (5, (0, l5))]) rfl ?_
      refine r_scast 2 (v := (0, 0)) (w := (2, 0)) rfl cz (fun _ => Or.inl rfl) (st' := [(0, -1), (0, w32 (3 + l5)), (2, 0), (12, q112.2 a0 6)]) rfl ?_
      exact oX11_drawLine_b138 (K := K) (fun r z => k0 r z) (fun _ _ z => k1 _ _ z) hr hk
set_option maxRecDepth 100000 in
set_option maxHeartbeats 4000000 in
theorem oX11_drawLine_b224 {s0 s1 s2 s3 : Int} {K : hH → Prop} (k0 : ∀ r, K (r) → x = (none, r)) {r : hH} (hr : fX11_drawLine_b224 h s0 s1 s2 s3 = some r) (hk : K r) : Wq p l e R s m args below meth c D G A H0 true n0 M_X11_drawLine x 0 0 224 [] [(0, s0), (0, s1), (2, s2), (12, s3)] h := by
  unfold fX11_drawLine_b224 at hr
  refine r_scast 2 (v := (2, s2)) (w := (0, s2)) rfl zc hTz (st' := [(0, s0), (0, s1), (0, s2), (12, s3)]) rfl ?_
  obtain ⟨h224, hg224, hr⟩ := bnd hr
  refine k_V (ci := 2) (o := s3) (T := TX2) (as := [(0, s2), (0, s1), (0, s0)]) (rest := []) (X := (none, h224)) (oX2_setPart hg224) gX2_setPart rfl (by decide) rfl (wsl_64 _ (List.mem_of_getElem? (i := 1) rfl)) rfl dX11_drawLine_224 rfl ?_
  obtain rfl := Option.some.inj hr
  exact r_vret dX11_drawLine_227 rfl (k0 _ hk) ⟨rfl, rfl⟩
set_option maxRecDepth 100000 in
set_option maxHeartbeats 4000000 in
theorem oX11_drawLine_b166 {a0 l3 l4 : Int} {K : hH → Prop} (k0 : ∀ r, K (r) → x = (none, r)) {r : hH} (hr : fX11_drawLine_b166 h a0 l3 l4 = some r) (hk : K r) : Wq p l e R s m args below meth c D G A H0 true n0 M_X11_drawLine x 0 0 166 [(0, (21, a0)), (3, (0, l3)), (4, (0, l4))] [] h := by
  unfold fX11_drawLine_b166 at hr
  refine r_aload_n dX11_drawLine_166 rfl 0 rfl (nl rfl) ?_
  refine r_iload_n dX11_drawLine_167 rfl 1 rfl (Or.inl rfl) ?_
  obtain ⟨q168, hg168, hr⟩ := bnd hr
  refine k_V (ci := 11) (o := a0) (T := TX11) (as := [(0, l3)]) (rest := []) (X := (some (0, q168.1), q168.2)) (oX11_draw hg168) gX11_draw rfl (by decide) rfl (wsl_63 _ (List.mem_of_getElem? (i := 19) rfl)) rfl dX11_drawLine_168 rfl ?_
  refine r_istore dX11_drawLine_171 (Or.inl rfl) (by decide) (lv' := [(5, (0, q168.1)), (0, (21, a0)), (3, (0, l3)), (4, (0, l4))]) rfl ?_
  refine r_aload_n dX11_drawLine_173 rfl 1 rfl (nl rfl) ?_
  refine r_get 11 6 (o := a0) (w := (12, q168.2 a0 6)) (T := TX11) (ref := "FollowingRefs") rfl (by decide) rfl (by decide) inlX11 (wsl_2 _ (List.mem_of_getElem? (i := 16) rfl)) rfl dX11_drawLine_174 rfl ?_
  refine r_iconst dX11_drawLine_177 (by decide) ?_
  refine r_iload dX11_drawLine_178 0 rfl (Or.inl rfl) ?_
  refine r_bipush dX11_drawLine_180 (by decide) (by decide) ?_
  refine r_aload_n dX11_drawLine_182 rfl 1 rfl (nl rfl) ?_
  refine r_iconst dX11_drawLine_183 (by decide) ?_
  obtain ⟨q184, hg184, hr⟩ := bnd hr
  refine k_V (ci := 11) (o := a0) (T := TX11) (as := [(0, 4)]) (rest := [(0, 61), (0, q168.1), (0, 0), (12, q168.2 a0 6)]) (X := (some (0, q184.1), q184.2)) (oX11_draw hg184) gX11_draw rfl (by decide) rfl (wsl_63 _ (List.mem_of_getElem? (i := 19) rfl)) rfl dX11_drawLine_184 rfl ?_
  obtain ⟨h187, hg187, hr⟩ := bnd hr
  refine k_V (ci := 2) (o := q168.2 a0 6) (T := TX2) (as := [(0, 0), (0, q168.1), (0, 61), (0, q184.1)]) (rest := []) (X := (none, h187)) (oX2_addCond hg187) gX2_addCond rfl (by decide) rfl (wsl_64 _ (List.mem_of_getElem? (i := 2) rfl)) rfl dX11_drawLine_187 rfl ?_
  refine r_aload_n dX11_drawLine_190 rfl 1 rfl (nl rfl) ?_
  refine r_get 11 6 (o := a0) (w := (12, h187 a0 6)) (T := TX11) (ref := "FollowingRefs") rfl (by decide) rfl (by decide) inlX11 (wsl_2 _ (List.mem_of_getElem? (i := 16) rfl)) rfl dX11_drawLine_191 rfl ?_
  refine r_iconst dX11_drawLine_194 (by decide) ?_
  refine r_iconst dX11_drawLine_195 (by decide) ?_
  refine r_iload dX11_drawLine_196 0 rfl (Or.inl rfl) ?_
  obtain ⟨h198, hg198, hr⟩ := bnd hr
  refine k_V (ci := 2) (o := h187 a0 6) (T := TX2) (as := [(0, 0), (0, 3), (0, q168.1)]) (rest := []) (X := (none, h198)) (oX2_setPart hg198) gX2_setPart rfl (by decide) rfl (wsl_64 _ (List.mem_of_getElem? (i := 1) rfl)) rfl dX11_drawLine_198 rfl ?_
  refine r_aload_n dX11_drawLine_201 rfl 1 rfl (nl rfl) ?_
  refine r_get 11 6 (o := a0) (w := (12, h198 a0 6)) (T := TX11) (ref := "FollowingRefs") rfl (by decide) rfl (by decide) inlX11 (wsl_2 _ (List.mem_of_getElem? (i := 16) rfl)) rfl dX11_drawLine_202 rfl ?_
  refine r_iconst dX11_drawLine_205 (by decide) ?_
  refine r_iconst dX11_drawLine_206 (by decide) ?_
  refine r_iload dX11_drawLine_207 3 rfl (Or.inl rfl) ?_
  refine r_sipush dX11_drawLine_209 (by decide) (by decide) ?_
  refine r_icmp_ne dX11_drawLine_212 (tgt := 223) (by decide) (fun hc => ?_) (fun hc => ?_)
  · have hr := ifn hr hc
    refine r_iconst dX11_drawLine_223 (by decide) ?_
    refine r_sub [] (lv' := []) rfl ?_
    refine r_scast 2 (v := (0, 0)) (w := (2, 0)) rfl cz (fun _ => Or.inl rfl) (st' := [(0, -1), (0, 4), (2, 0), (12, h198 a0 6)]) rfl ?_
    exact oX11_drawLine_b224 (K := K) (fun r z => k0 r z) hr hk
  · have hr := ifp hr hc
    refine r_aload_n dX11_drawLine_215 rfl 1 rfl (nl rfl) ?_
    refine r_iconst dX11_drawLine_216 (by decide) ?_
    obtain ⟨q217, hg217, hr⟩ := bnd hr
    refine k_V (ci := 11) (o := a0) (T := TX11) (as := [(0, 4)]) (rest := [(0, 4), (0, 0), (12, h198 a0 6)]) (X := (some (0, q217.1), q217.2)) (oX11_draw hg217) gX11_draw rfl (by decide) rfl (wsl_63 _ (List.mem_of_getElem? (i := 19) rfl)) rfl dX11_drawLine_217 rfl ?_
    refine r_goto dX11_drawLine_220 (tgt := 224) (by decide) ?_
    refine r_sub [] (lv' := []) rfl ?_
    refine r_scast 2 (v := (0, 0)) (w := (2, 0)) rfl cz (fun _ => Or.inl rfl) (st' := [(0, q217.1), (0, 4), (2, 0), (12, h198 a0 6)]) rfl ?_
    exact oX11_drawLine_b224 (K := K) (fun r z => k0 r z) hr hk
set_option maxRecDepth 100000 in
set_option maxHeartbeats 4000000 in
theorem oX11_drawLine_b80 {a0 l2 l3 s0 : Int} {K : hH → Prop} (k0 : ∀ r, K (r) → x = (none, r)) {r : hH} (hr : fX11_drawLine_b80 h a0 l2 l3 s0 = some r) (hk : K r) : Wq p l e R s m args below meth c D G A H0 true n0 M_X11_drawLine x 0 0 80 [(0, (21, a0)), (2, (0, l2)), (3, (0, l3))] [(0, s0)] h := by
  unfold fX11_drawLine_b80 at hr
  refine r_istore dX11_drawLine_80 (Or.inl rfl) (by decide) (lv' := [(4, (0, s0)), (0, (21, a0)), (2, (0, l2)), (3, (0, l3))]) rfl ?_
  refine r_aload_n dX11_drawLine_82 rfl 1 rfl (nl rfl) ?_
  refine r_get 11 6 (o := a0) (w := (12, h a0 6)) (T := TX11) (ref := "FollowingRefs") rfl (by decide) rfl (by decide) inlX11 (wsl_2 _ (List.mem_of_getElem? (i := 16) rfl)) rfl dX11_drawLine_83 rfl ?_
  refine r_iconst dX11_drawLine_86 (by decide) ?_
  refine r_iload dX11_drawLine_87 0 rfl (Or.inl rfl) ?_
  refine r_iload_n dX11_drawLine_89 rfl 2 rfl (Or.inl rfl) ?_
  obtain ⟨h90, hg90, hr⟩ := bnd hr
  refine k_V (ci := 2) (o := h a0 6) (T := TX2) (as := [(0, 0), (0, s0), (0, l2)]) (rest := []) (X := (none, h90)) (oX2_startLine hg90) gX2_startLine rfl (by decide) rfl (wsl_64 _ (List.mem_of_getElem? (i := 0) rfl)) rfl dX11_drawLine_90 rfl ?_
  refine r_iload dX11_drawLine_93 0 rfl (Or.inl rfl) ?_
  refine r_sipush dX11_drawLine_95 (by decide) (by decide) ?_
  refine r_icmp_ne dX11_drawLine_98 (tgt := 150) (by decide) (fun hc => ?_) (fun hc => ?_)
  · have hr := ifn hr hc
    refine r_iload dX11_drawLine_150 0 rfl (Or.inl rfl) ?_
    refine r_sipush dX11_drawLine_152 (by decide) (by decide) ?_
    refine r_icmp_eq dX11_drawLine_155 (tgt := 166) (by decide) (fun hc => ?_) (fun hc => ?_)
    · have hr := ifp hr hc
      refine r_sub [1, 3, 0] (lv' := [(0, (21, a0)), (3, (0, l3)), (4, (0, s0))]) rfl ?_
      exact oX11_drawLine_b166 (K := K) (fun r z => k0 r z) hr hk
    · have hr := ifn hr hc
      refine r_iload dX11_drawLine_158 0 rfl (Or.inl rfl) ?_
      refine r_sipush dX11_drawLine_160 (by decide) (by decide) ?_
      refine r_icmp_ne dX11_drawLine_163 (tgt := 227) (by decide) (fun hc => ?_) (fun hc => ?_)
      · have hr := ifn hr hc
        obtain rfl := Option.some.inj hr
        exact r_vret dX11_drawLine_227 rfl (k0 _ hk) ⟨rfl, rfl⟩
      · have hr := ifp hr hc
        refine r_sub [1, 3, 0] (lv' := [(0, (21, a0)), (3, (0, l3)), (4, (0, s0))]) rfl ?_
        exact oX11_drawLine_b166 (K := K) (fun r z => k0 r z) hr hk
  · have hr := ifp hr hc
    refine r_iconst dX11_drawLine_101 (by decide) ?_
    refine r_istore dX11_drawLine_102 (Or.inl rfl) (by decide) (lv' := [(5, (0, 0)), (4, (0, s0)), (0, (21, a0)), (2, (0, l2)), (3, (0, l3))]) rfl ?_
    refine r_sub [2, 4, 0] (lv' := [(0, (21, a0)), (3, (0, l3)), (5, (0, 0))]) rfl ?_
    exact lp_ok (w := fun (q : hH × Int) => Wq p l e R s m args below meth c D G A H0 true n0 M_X11_drawLine x 0 0 104 [(0, (21, a0)), (3, (0, l3)), (5, (0, q.2))] [] (q.1)) (K := K) (fun ⟨q0, q1⟩ r h1 h2 => oX11_drawLine_s104 (K := Sum.elim (fun (q : hH × Int) => Wq p l e R s m args below meth c D G A H0 true n0 M_X11_drawLine x 0 0 104 [(0, (21, a0)), (3, (0, l3)), (5, (0, q.2))] [] (q.1)) (K)) (fun r z => k0 r z) (fun _ _ z => z) h1 h2) hr hk
set_option maxRecDepth 100000 in
set_option maxHeartbeats 4000000 in
theorem oX11_drawLine_b0 {a0 : Int} {K : hH → Prop} (k0 : ∀ r, K (r) → x = (none, r)) {r : hH} (hr : fX11_drawLine h a0 = some r) (hk : K r) : Wq p l e R s m args below meth c D G A H0 true n0 M_X11_drawLine x 0 0 0 [(0, (21, a0))] [] h := by
  unfold fX11_drawLine at hr
  refine r_aload_n dX11_drawLine_0 rfl 0 rfl (nl rfl) ?_
  refine r_bipush dX11_drawLine_1 (by decide) (by decide) ?_
  obtain ⟨q3, hg3, hr⟩ := bnd hr
  refine k_V (ci := 11) (o := a0) (T := TX11) (as := [(0, 6)]) (rest := []) (X := (some (0, q3.1), q3.2)) (oX11_draw hg3) gX11_draw rfl (by decide) rfl (wsl_63 _ (List.mem_of_getElem? (i := 19) rfl)) rfl dX11_drawLine_3 rfl ?_
  refine r_istore_n dX11_drawLine_6 rfl (Or.inl rfl) (by decide) (lv' := [(1, (0, q3.1)), (0, (21, a0))]) rfl ?_
  refine r_aload_n dX11_drawLine_7 rfl 1 rfl (nl rfl) ?_
  refine r_aload_n dX11_drawLine_8 rfl 1 rfl (nl rfl) ?_
  refine r_get 11 1 (o := a0) (w := (14, q3.2 a0 1)) (T := TX11) (ref := "FollowingRefs") rfl (by decide) rfl (by decide) inlX11 (wsl_1 _ (List.mem_of_getElem? (i := 20) rfl)) rfl dX11_drawLine_9 rfl ?_
  refine r_get 4 0 (o := q3.2 a0 1) (w := (0, q3.2 (q3.2 a0 1) 0)) (T := TX4) (ref := "FollowingRefs$Schema") rfl (by decide) rfl (by decide) inlX4 (wsl_52 _ (List.mem_of_getElem? (i := 22) rfl)) rfl dX11_drawLine_12 rfl ?_
  obtain ⟨q15, hg15, hr⟩ := bnd hr
  refine k_V (ci := 11) (o := a0) (T := TX11) (as := [(0, q3.2 (q3.2 a0 1) 0)]) (rest := []) (X := (some (0, q15.1), q15.2)) (oX11_draw hg15) gX11_draw rfl (by decide) rfl (wsl_63 _ (List.mem_of_getElem? (i := 19) rfl)) rfl dX11_drawLine_15 rfl ?_
  refine r_istore_n dX11_drawLine_18 rfl (Or.inl rfl) (by decide) (lv' := [(2, (0, q15.1)), (1, (0, q3.1)), (0, (21, a0))]) rfl ?_
  refine r_aload_n dX11_drawLine_19 rfl 2 rfl (nl rfl) ?_
  refine r_get 11 1 (o := a0) (w := (14, q15.2 a0 1)) (T := TX11) (ref := "FollowingRefs") rfl (by decide) rfl (by decide) inlX11 (wsl_1 _ (List.mem_of_getElem? (i := 20) rfl)) rfl dX11_drawLine_20 rfl ?_
  refine r_iload_n dX11_drawLine_23 rfl 0 rfl (Or.inl rfl) ?_
  obtain ⟨r24, hg24, hr⟩ := bnd hr
  refine k_V (ci := 4) (o := q15.2 a0 1) (T := TX4) (as := [(0, q15.1)]) (rest := []) (X := (some (0, r24), q15.2)) (oX4_width hg24) gX4_width rfl (by decide) rfl (wsl_55 _ (List.mem_of_getElem? (i := 3) rfl)) rfl dX11_drawLine_24 rfl ?_
  refine r_istore_n dX11_drawLine_27 rfl (Or.inl rfl) (by decide) (lv' := [(3, (0, r24)), (2, (0, q15.1)), (1, (0, q3.1)), (0, (21, a0))]) rfl ?_
  refine r_iload_n dX11_drawLine_28 rfl 2 rfl (Or.inl rfl) ?_
  refine r_iconst dX11_drawLine_29 (by decide) ?_
  refine r_icmp_ge dX11_drawLine_30 (tgt := 39) (by decide) (fun hc => ?_) (fun hc => ?_)
  · have hr := ifn hr hc
    refine r_iload_n dX11_drawLine_39 rfl 2 rfl (Or.inl rfl) ?_
    refine r_iconst dX11_drawLine_40 (by decide) ?_
    refine r_icmp_ne dX11_drawLine_41 (tgt := 50) (by decide) (fun hc => ?_) (fun hc => ?_)
    · have hr := ifn hr hc
      refine r_iload_n dX11_drawLine_50 rfl 2 rfl (Or.inl rfl) ?_
      refine r_iconst dX11_drawLine_51 (by decide) ?_
      refine r_icmp_ne dX11_drawLine_52 (tgt := 61) (by decide) (fun hc => ?_) (fun hc => ?_)
      · have hr := ifn hr hc
        refine r_aload_n dX11_drawLine_61 rfl 3 rfl (nl rfl) ?_
        refine r_get 11 2 (o := a0) (w := (18, q15.2 a0 2)) (T := TX11) (ref := "FollowingRefs") rfl (by decide) rfl (by decide) inlX11 (wsl_2 _ (List.mem_of_getElem? (i := 0) rfl)) rfl dX11_drawLine_62 rfl ?_
        refine r_get 8 2 (o := q15.2 a0 2) (w := (2, q15.2 (q15.2 a0 2) 2)) (T := TX8) (ref := "FollowingRefs$State") rfl (by decide) rfl (by decide) inlX8 (wsl_49 _ (List.mem_of_getElem? (i := 8) rfl)) rfl dX11_drawLine_65 rfl ?_
        refine r_scast 0 (v := (2, q15.2 (q15.2 a0 2) 2)) (w := (0, q15.2 (q15.2 a0 2) 2)) rfl zc hTz (st' := [(0, q15.2 (q15.2 a0 2) 2)]) rfl ?_
        refine r_if_eq dX11_drawLine_68 (tgt := 77) (by decide) (fun hc => ?_) (fun hc => ?_)
        · have hr := ifp hr hc
          refine r_sipush dX11_drawLine_77 (by decide) (by decide) ?_
          refine r_sub [3, 1, 0] (lv' := [(0, (21, a0)), (2, (0, q15.1)), (3, (0, r24))]) rfl ?_
          exact oX11_drawLine_b80 (K := K) (fun r z => k0 r z) hr hk
        · have hr := ifn hr hc
          refine r_sipush dX11_drawLine_71 (by decide) (by decide) ?_
          refine r_goto dX11_drawLine_74 (tgt := 80) (by decide) ?_
          refine r_sub [3, 1, 0] (lv' := [(0, (21, a0)), (2, (0, q15.1)), (3, (0, r24))]) rfl ?_
          exact oX11_drawLine_b80 (K := K) (fun r z => k0 r z) hr hk
      · have hr := ifp hr hc
        refine r_sipush dX11_drawLine_55 (by decide) (by decide) ?_
        refine r_goto dX11_drawLine_58 (tgt := 80) (by decide) ?_
        refine r_sub [3, 1, 0] (lv' := [(0, (21, a0)), (2, (0, q15.1)), (3, (0, r24))]) rfl ?_
        exact oX11_drawLine_b80 (K := K) (fun r z => k0 r z) hr hk
    · have hr := ifp hr hc
      refine r_sipush dX11_drawLine_44 (by decide) (by decide) ?_
      refine r_goto dX11_drawLine_47 (tgt := 80) (by decide) ?_
      refine r_sub [3, 1, 0] (lv' := [(0, (21, a0)), (2, (0, q15.1)), (3, (0, r24))]) rfl ?_
      exact oX11_drawLine_b80 (K := K) (fun r z => k0 r z) hr hk
  · have hr := ifp hr hc
    refine r_sipush dX11_drawLine_33 (by decide) (by decide) ?_
    refine r_goto dX11_drawLine_36 (tgt := 80) (by decide) ?_
    refine r_sub [3, 1, 0] (lv' := [(0, (21, a0)), (2, (0, q15.1)), (3, (0, r24))]) rfl ?_
    exact oX11_drawLine_b80 (K := K) (fun r z => k0 r z) hr hk
end M_X11_drawLine
theorem oX11_drawLine {l : Launch} {D : va_G} {G : gG} {h : hH} {a0 : Int} {r : hH} (hr : fX11_drawLine h a0 = some r) : Ctr l D G true yX11_drawLine M_X11_drawLine [(21, a0)] h (none, r) :=
  Ctr_of (by decide) rfl (fun z => by cases z) (nl rfl) (fun {p e R s m args below meth c A H0} => by
    exact oX11_drawLine_b0 (K := fun z9 => z9 = r) (fun r9 z => by rw [z]) hr rfl)
/-! X11_runLine -/
theorem dX11_runLine_0 : decode cX11_runLine 0 = .ok (.aload_n 0, 1) := by decide +kernel
theorem dX11_runLine_1 : decode cX11_runLine 1 = .ok (.getfield 58, 3) := by decide +kernel
theorem dX11_runLine_4 : decode cX11_runLine 4 = .ok (.iload_n 1, 1) := by decide +kernel
theorem dX11_runLine_5 : decode cX11_runLine 5 = .ok (.iconst 0, 1) := by decide +kernel
theorem dX11_runLine_6 : decode cX11_runLine 6 = .ok (.invokevirtual 365, 3) := by decide +kernel
theorem dX11_runLine_9 : decode cX11_runLine 9 = .ok (.tableswitch 112 146 148 #[27, 44, 95], 27) := by decide +kernel
theorem dX11_runLine_36 : decode cX11_runLine 36 = .ok (.aload_n 0, 1) := by decide +kernel
theorem dX11_runLine_37 : decode cX11_runLine 37 = .ok (.getfield 26, 3) := by decide +kernel
theorem dX11_runLine_40 : decode cX11_runLine 40 = .ok (.invokevirtual 206, 3) := by decide +kernel
theorem dX11_runLine_43 : decode cX11_runLine 43 = .ok (.ifCond .eq 7, 3) := by decide +kernel
theorem dX11_runLine_46 : decode cX11_runLine 46 = .ok (.iconst 0, 1) := by decide +kernel
theorem dX11_runLine_47 : decode cX11_runLine 47 = .ok (.goto 5, 3) := by decide +kernel
theorem dX11_runLine_50 : decode cX11_runLine 50 = .ok (.bipush 11, 2) := by decide +kernel
theorem dX11_runLine_52 : decode cX11_runLine 52 = .ok (.ireturn, 1) := by decide +kernel
theorem dX11_runLine_53 : decode cX11_runLine 53 = .ok (.aload_n 0, 1) := by decide +kernel
theorem dX11_runLine_54 : decode cX11_runLine 54 = .ok (.getfield 26, 3) := by decide +kernel
theorem dX11_runLine_57 : decode cX11_runLine 57 = .ok (.getfield 203, 3) := by decide +kernel
theorem dX11_runLine_60 : decode cX11_runLine 60 = .ok (.ifCond .ne 6, 3) := by decide +kernel
theorem dX11_runLine_63 : decode cX11_runLine 63 = .ok (.bipush 21, 2) := by decide +kernel
theorem dX11_runLine_65 : decode cX11_runLine 65 = .ok (.ireturn, 1) := by decide +kernel
theorem dX11_runLine_66 : decode cX11_runLine 66 = .ok (.aload_n 0, 1) := by decide +kernel
theorem dX11_runLine_67 : decode cX11_runLine 67 = .ok (.getfield 71, 3) := by decide +kernel
theorem dX11_runLine_70 : decode cX11_runLine 70 = .ok (.getfield 193, 3) := by decide +kernel
theorem dX11_runLine_73 : decode cX11_runLine 73 = .ok (.aload_n 0, 1) := by decide +kernel
theorem dX11_runLine_74 : decode cX11_runLine 74 = .ok (.getfield 19, 3) := by decide +kernel
theorem dX11_runLine_77 : decode cX11_runLine 77 = .ok (.aload_n 0, 1) := by decide +kernel
theorem dX11_runLine_78 : decode cX11_runLine 78 = .ok (.getfield 26, 3) := by decide +kernel
theorem dX11_runLine_81 : decode cX11_runLine 81 = .ok (.getfield 152, 3) := by decide +kernel
theorem dX11_runLine_84 : decode cX11_runLine 84 = .ok (.iconst 1, 1) := by decide +kernel
theorem dX11_runLine_85 : decode cX11_runLine 85 = .ok (.invokevirtual 210, 3) := by decide +kernel
theorem dX11_runLine_88 : decode cX11_runLine 88 = .ok (.ifCond .le 6, 3) := by decide +kernel
theorem dX11_runLine_91 : decode cX11_runLine 91 = .ok (.bipush 22, 2) := by decide +kernel
theorem dX11_runLine_93 : decode cX11_runLine 93 = .ok (.ireturn, 1) := by decide +kernel
theorem dX11_runLine_94 : decode cX11_runLine 94 = .ok (.aload_n 0, 1) := by decide +kernel
theorem dX11_runLine_95 : decode cX11_runLine 95 = .ok (.getfield 26, 3) := by decide +kernel
theorem dX11_runLine_98 : decode cX11_runLine 98 = .ok (.iconst 0, 1) := by decide +kernel
theorem dX11_runLine_99 : decode cX11_runLine 99 = .ok (.putfield 203, 3) := by decide +kernel
theorem dX11_runLine_102 : decode cX11_runLine 102 = .ok (.iconst 0, 1) := by decide +kernel
theorem dX11_runLine_103 : decode cX11_runLine 103 = .ok (.ireturn, 1) := by decide +kernel
theorem dX11_runLine_104 : decode cX11_runLine 104 = .ok (.aload_n 0, 1) := by decide +kernel
theorem dX11_runLine_105 : decode cX11_runLine 105 = .ok (.getfield 26, 3) := by decide +kernel
theorem dX11_runLine_108 : decode cX11_runLine 108 = .ok (.invokevirtual 214, 3) := by decide +kernel
theorem dX11_runLine_111 : decode cX11_runLine 111 = .ok (.ifCond .eq 7, 3) := by decide +kernel
theorem dX11_runLine_114 : decode cX11_runLine 114 = .ok (.iconst 0, 1) := by decide +kernel
theorem dX11_runLine_115 : decode cX11_runLine 115 = .ok (.goto 5, 3) := by decide +kernel
theorem dX11_runLine_118 : decode cX11_runLine 118 = .ok (.bipush 31, 2) := by decide +kernel
theorem dX11_runLine_120 : decode cX11_runLine 120 = .ok (.ireturn, 1) := by decide +kernel
theorem dX11_runLine_121 : decode cX11_runLine 121 = .ok (.aload_n 0, 1) := by decide +kernel
theorem dX11_runLine_122 : decode cX11_runLine 122 = .ok (.getfield 71, 3) := by decide +kernel
theorem dX11_runLine_125 : decode cX11_runLine 125 = .ok (.aload_n 0, 1) := by decide +kernel
theorem dX11_runLine_126 : decode cX11_runLine 126 = .ok (.getfield 58, 3) := by decide +kernel
theorem dX11_runLine_129 : decode cX11_runLine 129 = .ok (.iload_n 1, 1) := by decide +kernel
theorem dX11_runLine_130 : decode cX11_runLine 130 = .ok (.invokevirtual 144, 3) := by decide +kernel
theorem dX11_runLine_133 : decode cX11_runLine 133 = .ok (.istore_n 2, 1) := by decide +kernel
theorem dX11_runLine_134 : decode cX11_runLine 134 = .ok (.iload_n 2, 1) := by decide +kernel
theorem dX11_runLine_135 : decode cX11_runLine 135 = .ok (.ifCond .ne 20, 3) := by decide +kernel
theorem dX11_runLine_138 : decode cX11_runLine 138 = .ok (.aload_n 0, 1) := by decide +kernel
theorem dX11_runLine_139 : decode cX11_runLine 139 = .ok (.getfield 26, 3) := by decide +kernel
theorem dX11_runLine_142 : decode cX11_runLine 142 = .ok (.getfield 152, 3) := by decide +kernel
theorem dX11_runLine_145 : decode cX11_runLine 145 = .ok (.aload_n 0, 1) := by decide +kernel
theorem dX11_runLine_146 : decode cX11_runLine 146 = .ok (.getfield 71, 3) := by decide +kernel
theorem dX11_runLine_149 : decode cX11_runLine 149 = .ok (.getfield 156, 3) := by decide +kernel
theorem dX11_runLine_152 : decode cX11_runLine 152 = .ok (.invokevirtual 159, 3) := by decide +kernel
theorem dX11_runLine_155 : decode cX11_runLine 155 = .ok (.iload_n 2, 1) := by decide +kernel
theorem dX11_runLine_156 : decode cX11_runLine 156 = .ok (.ireturn, 1) := by decide +kernel
abbrev M_X11_runLine : mM := (cX11_runLine, 3, RX11, some .int, false, 6, 170, 0, 0)
theorem gX11_runLine : cI yX11_runLine M_X11_runLine 1 := ⟨(wsl_64 _ (List.mem_of_getElem? (i := 4) rfl)), (wsl_64 _ (List.mem_of_getElem? (i := 5) rfl)), (wsl_1 _ (List.mem_of_getElem? (i := 2) rfl)), (wsl_64 _ (List.mem_of_getElem? (i := 6) rfl)), by decide +kernel⟩
noncomputable def fX11_runLine (h : hH) (a0 a1 : Int) : Option (Int × hH) :=
  (fX2_part h (h a0 6) a1 0).bind fun r6 =>
  if r6 = 146 then
    (fX8_start h (h a0 2)).bind fun q40 =>
    if q40.1 = 0 then
      some (11, q40.2)
    else
      some (0, q40.2)
  else
    if r6 = 147 then
      if h (h a0 2) 2 = 0 then
        some (21, h)
      else
        (fX10_scan h (h (h a0 8) 3) (h a0 1) (h (h a0 2) 0) 1).bind fun q85 =>
        if 0 < q85.1 then
          some (22, q85.2)
        else
          (pput q85.2 (q85.2 a0 2) 2 0).bind fun h99 =>
          some (0, h99)
    else
      if r6 = 148 then
        (fX8_goBack h (h a0 2)).bind fun q108 =>
        if q108.1 = 0 then
          some (31, q108.2)
        else
          some (0, q108.2)
      else
        (fX1_judge h (h a0 8) (h a0 6) a1).bind fun q130 =>
        if q130.1 = 0 then
          (fX3_copyFrom q130.2 (q130.2 (q130.2 a0 2) 0) (q130.2 (q130.2 a0 8) 2)).bind fun h152 =>
          some (q130.1, h152)
        else
          some (q130.1, q130.2)
section M_X11_runLine
variable {p : Program} {l : Launch} {e : Env} {R : Room} {s : State} {m : MethodId} {args : Array Value} {below : List Frame} {meth : Method} {c : Code} {D : va_G} {G : gG} {A : Nat → Prop} {H0 : Heap} {n0 : Int} {x : Option vV × hH} {h : hH}
set_option maxRecDepth 100000 in
set_option maxHeartbeats 4000000 in
theorem oX11_runLine_b0 {a0 a1 : Int} {K : Int × hH → Prop} (k0 : ∀ r, K (r) → x = (some (0, r.1), r.2)) {r : Int × hH} (hr : fX11_runLine h a0 a1 = some r) (hk : K r) : Wq p l e R s m args below meth c D G A H0 true n0 M_X11_runLine x 0 0 0 [(0, (21, a0)), (1, (0, a1))] [] h := by
  unfold fX11_runLine at hr
  refine r_aload_n dX11_runLine_0 rfl 0 rfl (nl rfl) ?_
  refine r_get 11 6 (o := a0) (w := (12, h a0 6)) (T := TX11) (ref := "FollowingRefs") rfl (by decide) rfl (by decide) inlX11 (wsl_2 _ (List.mem_of_getElem? (i := 16) rfl)) rfl dX11_runLine_1 rfl ?_
  refine r_iload_n dX11_runLine_4 rfl 1 rfl (Or.inl rfl) ?_
  refine r_iconst dX11_runLine_5 (by decide) ?_
  obtain ⟨r6, hg6, hr⟩ := bnd hr
  refine k_V (ci := 2) (o := h a0 6) (T := TX2) (as := [(0, a1), (0, 0)]) (rest := []) (X := (some (0, r6), h)) (oX2_part hg6) gX2_part rfl (by decide) rfl (wsl_64 _ (List.mem_of_getElem? (i := 7) rfl)) rfl dX11_runLine_6 rfl ?_
  by_cases hs0 : r6 = 146
  · have hr := ifp hr hs0
    refine r_tableIn dX11_runLine_9 (by omega) (by omega) (off := 27) (by rw [hs0]; rfl) (tgt := 36) (by decide) ?_
    refine r_aload_n dX11_runLine_36 rfl 0 rfl (nl rfl) ?_
    refine r_get 11 2 (o := a0) (w := (18, h a0 2)) (T := TX11) (ref := "FollowingRefs") rfl (by decide) rfl (by decide) inlX11 (wsl_2 _ (List.mem_of_getElem? (i := 0) rfl)) rfl dX11_runLine_37 rfl ?_
    obtain ⟨q40, hg40, hr⟩ := bnd hr
    refine k_V (ci := 8) (o := h a0 2) (T := TX8) (as := []) (rest := []) (X := (some (2, q40.1), q40.2)) (oX8_start hg40) gX8_start rfl (by decide) rfl (wsl_49 _ (List.mem_of_getElem? (i := 9) rfl)) rfl dX11_runLine_40 rfl ?_
    refine r_scast 0 (v := (2, q40.1)) (w := (0, q40.1)) rfl zc hTz (st' := [(0, q40.1)]) rfl ?_
    refine r_if_eq dX11_runLine_43 (tgt := 50) (by decide) (fun hc => ?_) (fun hc => ?_)
    · have hr := ifp hr hc
      refine r_bipush dX11_runLine_50 (by decide) (by decide) ?_
      obtain rfl := Option.some.inj hr
      exact r_ret dX11_runLine_52 rfl (Or.inl ⟨rfl, rfl⟩) (k0 _ hk) ⟨rfl, rfl⟩
    · have hr := ifn hr hc
      refine r_iconst dX11_runLine_46 (by decide) ?_
      refine r_goto dX11_runLine_47 (tgt := 52) (by decide) ?_
      obtain rfl := Option.some.inj hr
      exact r_ret dX11_runLine_52 rfl (Or.inl ⟨rfl, rfl⟩) (k0 _ hk) ⟨rfl, rfl⟩
  have hr := ifn hr hs0
  by_cases hs1 : r6 = 147
  · have hr := ifp hr hs1
    refine r_tableIn dX11_runLine_9 (by omega) (by omega) (off := 44) (by rw [hs1]; rfl) (tgt := 53) (by decide) ?_
    refine r_aload_n dX11_runLine_53 rfl 0 rfl (nl rfl) ?_
    refine r_get 11 2 (o := a0) (w := (18, h a0 2)) (T := TX11) (ref := "FollowingRefs") rfl (by decide) rfl (by decide) inlX11 (wsl_2 _ (List.mem_of_getElem? (i := 0) rfl)) rfl dX11_runLine_54 rfl ?_
    refine r_get 8 2 (o := h a0 2) (w := (2, h (h a0 2) 2)) (T := TX8) (ref := "FollowingRefs$State") rfl (by decide) rfl (by decide) inlX8 (wsl_49 _ (List.mem_of_getElem? (i := 8) rfl)) rfl dX11_runLine_57 rfl ?_
    refine r_scast 0 (v := (2, h (h a0 2) 2)) (w := (0, h (h a0 2) 2)) rfl zc hTz (st' := [(0, h (h a0 2) 2)]) rfl ?_
    refine r_if_ne dX11_runLine_60 (tgt := 66) (by decide) (fun hc => ?_) (fun hc => ?_)
    · have hr := ifn hr hc
      refine r_aload_n dX11_runLine_66 rfl 0 rfl (nl rfl) ?_
      refine r_get 11 8 (o := a0) (w := (11, h a0 8)) (T := TX11) (ref := "FollowingRefs") rfl (by decide) rfl (by decide) inlX11 (wsl_2 _ (List.mem_of_getElem? (i := 21) rfl)) rfl dX11_runLine_67 rfl ?_
      refine r_get 1 3 (o := h a0 8) (w := (20, h (h a0 8) 3)) (T := TX1) (ref := "FollowingRefs$Judge") rfl (by decide) rfl (by decide) inlX1 (wsl_48 _ (List.mem_of_getElem? (i := 22) rfl)) rfl dX11_runLine_70 rfl ?_
      refine r_aload_n dX11_runLine_73 rfl 0 rfl (nl rfl) ?_
      refine r_get 11 1 (o := a0) (w := (14, h a0 1)) (T := TX11) (ref := "FollowingRefs") rfl (by decide) rfl (by decide) inlX11 (wsl_1 _ (List.mem_of_getElem? (i := 20) rfl)) rfl dX11_runLine_74 rfl ?_
      refine r_aload_n dX11_runLine_77 rfl 0 rfl (nl rfl) ?_
      refine r_get 11 2 (o := a0) (w := (18, h a0 2)) (T := TX11) (ref := "FollowingRefs") rfl (by decide) rfl (by decide) inlX11 (wsl_2 _ (List.mem_of_getElem? (i := 0) rfl)) rfl dX11_runLine_78 rfl ?_
      refine r_get 8 0 (o := h a0 2) (w := (13, h (h a0 2) 0)) (T := TX8) (ref := "FollowingRefs$State") rfl (by decide) rfl (by decide) inlX8 (wsl_29 _ (List.mem_of_getElem? (i := 9) rfl)) rfl dX11_runLine_81 rfl ?_
      refine r_iconst dX11_runLine_84 (by decide) ?_
      refine r_scast 0 (v := (0, 1)) (w := (2, 1)) rfl cz (fun _ => Or.inr rfl) (st' := [(2, 1), (13, h (h a0 2) 0), (14, h a0 1), (20, h (h a0 8) 3)]) rfl ?_
      obtain ⟨q85, hg85, hr⟩ := bnd hr
      refine k_V (ci := 10) (o := h (h a0 8) 3) (T := TX10) (as := [(14, h a0 1), (13, h (h a0 2) 0), (2, 1)]) (rest := []) (X := (some (0, q85.1), q85.2)) (oX10_scan hg85) gX10_scan rfl (by decide) rfl (wsl_50 _ (List.mem_of_getElem? (i := 10) rfl)) rfl dX11_runLine_85 rfl ?_
      refine r_if_le dX11_runLine_88 (tgt := 94) (by decide) (fun hc => ?_) (fun hc => ?_)
      · have hr := ifn hr hc
        refine r_aload_n dX11_runLine_94 rfl 0 rfl (nl rfl) ?_
        refine r_get 11 2 (o := a0) (w := (18, q85.2 a0 2)) (T := TX11) (ref := "FollowingRefs") rfl (by decide) rfl (by decide) inlX11 (wsl_2 _ (List.mem_of_getElem? (i := 0) rfl)) rfl dX11_runLine_95 rfl ?_
        refine r_iconst dX11_runLine_98 (by decide) ?_
        refine r_scast 0 (v := (0, 0)) (w := (2, 0)) rfl cz (fun _ => Or.inl rfl) (st' := [(2, 0), (18, q85.2 a0 2)]) rfl ?_
        obtain ⟨h99, hg99, hr⟩ := bnd hr
        refine r_put' 8 2 (t := 2) (ref := "FollowingRefs$State") hg99 rfl tyX8 tyX8_ok nmX8 rfl (by decide) rfl (by decide) inlX8 (wsl_49 _ (List.mem_of_getElem? (i := 8) rfl)) rfl rfl (by decide +kernel) (by decide) rfl (Or.inr (Or.inr (Or.inl ⟨rfl, rfl⟩))) dX11_runLine_99 ?_
        refine r_iconst dX11_runLine_102 (by decide) ?_
        obtain rfl := Option.some.inj hr
        exact r_ret dX11_runLine_103 rfl (Or.inl ⟨rfl, rfl⟩) (k0 _ hk) ⟨rfl, rfl⟩
      · have hr := ifp hr hc
        refine r_bipush dX11_runLine_91 (by decide) (by decide) ?_
        obtain rfl := Option.some.inj hr
        exact r_ret dX11_runLine_93 rfl (Or.inl ⟨rfl, rfl⟩) (k0 _ hk) ⟨rfl, rfl⟩
    · have hr := ifp hr hc
      refine r_bipush dX11_runLine_63 (by decide) (by decide) ?_
      obtain rfl := Option.some.inj hr
      exact r_ret dX11_runLine_65 rfl (Or.inl ⟨rfl, rfl⟩) (k0 _ hk) ⟨rfl, rfl⟩
  have hr := ifn hr hs1
  by_cases hs2 : r6 = 148
  · have hr := ifp hr hs2
    refine r_tableIn dX11_runLine_9 (by omega) (by omega) (off := 95) (by rw [hs2]; rfl) (tgt := 104) (by decide) ?_
    refine r_aload_n dX11_runLine_104 rfl 0 rfl (nl rfl) ?_
    refine r_get 11 2 (o := a0) (w := (18, h a0 2)) (T := TX11) (ref := "FollowingRefs") rfl (by decide) rfl (by decide) inlX11 (wsl_2 _ (List.mem_of_getElem? (i := 0) rfl)) rfl dX11_runLine_105 rfl ?_
    obtain ⟨q108, hg108, hr⟩ := bnd hr
    refine k_V (ci := 8) (o := h a0 2) (T := TX8) (as := []) (rest := []) (X := (some (2, q108.1), q108.2)) (oX8_goBack hg108) gX8_goBack rfl (by decide) rfl (wsl_51 _ (List.mem_of_getElem? (i := 7) rfl)) rfl dX11_runLine_108 rfl ?_
    refine r_scast 0 (v := (2, q108.1)) (w := (0, q108.1)) rfl zc hTz (st' := [(0, q108.1)]) rfl ?_
    refine r_if_eq dX11_runLine_111 (tgt := 118) (by decide) (fun hc => ?_) (fun hc => ?_)
    · have hr := ifp hr hc
      refine r_bipush dX11_runLine_118 (by decide) (by decide) ?_
      obtain rfl := Option.some.inj hr
      exact r_ret dX11_runLine_120 rfl (Or.inl ⟨rfl, rfl⟩) (k0 _ hk) ⟨rfl, rfl⟩
    · have hr := ifn hr hc
      refine r_iconst dX11_runLine_114 (by decide) ?_
      refine r_goto dX11_runLine_115 (tgt := 120) (by decide) ?_
      obtain rfl := Option.some.inj hr
      exact r_ret dX11_runLine_120 rfl (Or.inl ⟨rfl, rfl⟩) (k0 _ hk) ⟨rfl, rfl⟩
  have hr := ifn hr hs2
  refine r_tableOut dX11_runLine_9 (by omega) (tgt := 121) (by decide) ?_
  refine r_aload_n dX11_runLine_121 rfl 0 rfl (nl rfl) ?_
  refine r_get 11 8 (o := a0) (w := (11, h a0 8)) (T := TX11) (ref := "FollowingRefs") rfl (by decide) rfl (by decide) inlX11 (wsl_2 _ (List.mem_of_getElem? (i := 21) rfl)) rfl dX11_runLine_122 rfl ?_
  refine r_aload_n dX11_runLine_125 rfl 0 rfl (nl rfl) ?_
  refine r_get 11 6 (o := a0) (w := (12, h a0 6)) (T := TX11) (ref := "FollowingRefs") rfl (by decide) rfl (by decide) inlX11 (wsl_2 _ (List.mem_of_getElem? (i := 16) rfl)) rfl dX11_runLine_126 rfl ?_
  refine r_iload_n dX11_runLine_129 rfl 1 rfl (Or.inl rfl) ?_
  obtain ⟨q130, hg130, hr⟩ := bnd hr
  refine k_V (ci := 1) (o := h a0 8) (T := TX1) (as := [(12, h a0 6), (0, a1)]) (rest := []) (X := (some (0, q130.1), q130.2)) (oX1_judge hg130) gX1_judge rfl (by decide) rfl (wsl_31 _ (List.mem_of_getElem? (i := 20) rfl)) rfl dX11_runLine_130 rfl ?_
  refine r_istore_n dX11_runLine_133 rfl (Or.inl rfl) (by decide) (lv' := [(2, (0, q130.1)), (0, (21, a0)), (1, (0, a1))]) rfl ?_
  refine r_iload_n dX11_runLine_134 rfl 0 rfl (Or.inl rfl) ?_
  refine r_if_ne dX11_runLine_135 (tgt := 155) (by decide) (fun hc => ?_) (fun hc => ?_)
  · have hr := ifn hr hc
    refine r_iload_n dX11_runLine_155 rfl 0 rfl (Or.inl rfl) ?_
    obtain rfl := Option.some.inj hr
    exact r_ret dX11_runLine_156 rfl (Or.inl ⟨rfl, rfl⟩) (k0 _ hk) ⟨rfl, rfl⟩
  · have hr := ifp hr hc
    refine r_aload_n dX11_runLine_138 rfl 1 rfl (nl rfl) ?_
    refine r_get 11 2 (o := a0) (w := (18, q130.2 a0 2)) (T := TX11) (ref := "FollowingRefs") rfl (by decide) rfl (by decide) inlX11 (wsl_2 _ (List.mem_of_getElem? (i := 0) rfl)) rfl dX11_runLine_139 rfl ?_
    refine r_get 8 0 (o := q130.2 a0 2) (w := (13, q130.2 (q130.2 a0 2) 0)) (T := TX8) (ref := "FollowingRefs$State") rfl (by decide) rfl (by decide) inlX8 (wsl_29 _ (List.mem_of_getElem? (i := 9) rfl)) rfl dX11_runLine_142 rfl ?_
    refine r_aload_n dX11_runLine_145 rfl 1 rfl (nl rfl) ?_
    refine r_get 11 8 (o := a0) (w := (11, q130.2 a0 8)) (T := TX11) (ref := "FollowingRefs") rfl (by decide) rfl (by decide) inlX11 (wsl_2 _ (List.mem_of_getElem? (i := 21) rfl)) rfl dX11_runLine_146 rfl ?_
    refine r_get 1 2 (o := q130.2 a0 8) (w := (13, q130.2 (q130.2 a0 8) 2)) (T := TX1) (ref := "FollowingRefs$Judge") rfl (by decide) rfl (by decide) inlX1 (wsl_29 _ (List.mem_of_getElem? (i := 10) rfl)) rfl dX11_runLine_149 rfl ?_
    obtain ⟨h152, hg152, hr⟩ := bnd hr
    refine k_V (ci := 3) (o := q130.2 (q130.2 a0 2) 0) (T := TX3) (as := [(13, q130.2 (q130.2 a0 8) 2)]) (rest := []) (X := (none, h152)) (oX3_copyFrom hg152) gX3_copyFrom rfl (by decide) rfl (wsl_40 _ (List.mem_of_getElem? (i := 6) rfl)) rfl dX11_runLine_152 rfl ?_
    refine r_iload_n dX11_runLine_155 rfl 0 rfl (Or.inl rfl) ?_
    obtain rfl := Option.some.inj hr
    exact r_ret dX11_runLine_156 rfl (Or.inl ⟨rfl, rfl⟩) (k0 _ hk) ⟨rfl, rfl⟩
end M_X11_runLine
theorem oX11_runLine {l : Launch} {D : va_G} {G : gG} {h : hH} {a0 a1 : Int} {r : Int × hH} (hr : fX11_runLine h a0 a1 = some r) : Ctr l D G true yX11_runLine M_X11_runLine [(21, a0), (0, a1)] h (some (0, r.1), r.2) :=
  Ctr_of (by decide) rfl (fun z => by cases z) (nl rfl) (fun {p e R s m args below meth c A H0} => by
    exact oX11_runLine_b0 (K := fun z9 => z9 = r) (fun r9 z => by rw [z]) hr rfl)
/-! X11_drawn -/
theorem dX11_drawn_0 : decode cX11_drawn 0 = .ok (.iload_n 1, 1) := by decide +kernel
theorem dX11_drawn_1 : decode cX11_drawn 1 = .ok (.iconst 1, 1) := by decide +kernel
theorem dX11_drawn_2 : decode cX11_drawn 2 = .ok (.if_icmp .lt 9, 3) := by decide +kernel
theorem dX11_drawn_5 : decode cX11_drawn 5 = .ok (.iload_n 1, 1) := by decide +kernel
theorem dX11_drawn_6 : decode cX11_drawn 6 = .ok (.bipush 40, 2) := by decide +kernel
theorem dX11_drawn_8 : decode cX11_drawn 8 = .ok (.if_icmp .le 5, 3) := by decide +kernel
theorem dX11_drawn_11 : decode cX11_drawn 11 = .ok (.iconst (-1), 1) := by decide +kernel
theorem dX11_drawn_12 : decode cX11_drawn 12 = .ok (.ireturn, 1) := by decide +kernel
theorem dX11_drawn_13 : decode cX11_drawn 13 = .ok (.aload_n 0, 1) := by decide +kernel
theorem dX11_drawn_14 : decode cX11_drawn 14 = .ok (.getfield 19, 3) := by decide +kernel
theorem dX11_drawn_17 : decode cX11_drawn 17 = .ok (.getfield 228, 3) := by decide +kernel
theorem dX11_drawn_20 : decode cX11_drawn 20 = .ok (.ifCond .ne 5, 3) := by decide +kernel
theorem dX11_drawn_23 : decode cX11_drawn 23 = .ok (.iconst 0, 1) := by decide +kernel
theorem dX11_drawn_24 : decode cX11_drawn 24 = .ok (.ireturn, 1) := by decide +kernel
theorem dX11_drawn_25 : decode cX11_drawn 25 = .ok (.aload_n 0, 1) := by decide +kernel
theorem dX11_drawn_26 : decode cX11_drawn 26 = .ok (.getfield 74, 3) := by decide +kernel
theorem dX11_drawn_29 : decode cX11_drawn 29 = .ok (.aload_n 0, 1) := by decide +kernel
theorem dX11_drawn_30 : decode cX11_drawn 30 = .ok (.getfield 26, 3) := by decide +kernel
theorem dX11_drawn_33 : decode cX11_drawn 33 = .ok (.invokevirtual 217, 3) := by decide +kernel
theorem dX11_drawn_36 : decode cX11_drawn 36 = .ok (.aload_n 0, 1) := by decide +kernel
theorem dX11_drawn_37 : decode cX11_drawn 37 = .ok (.iload_n 2, 1) := by decide +kernel
theorem dX11_drawn_38 : decode cX11_drawn 38 = .ok (.putfield 331, 3) := by decide +kernel
theorem dX11_drawn_41 : decode cX11_drawn 41 = .ok (.iconst 0, 1) := by decide +kernel
theorem dX11_drawn_42 : decode cX11_drawn 42 = .ok (.istore_n 3, 1) := by decide +kernel
theorem dX11_drawn_43 : decode cX11_drawn 43 = .ok (.iconst 0, 1) := by decide +kernel
theorem dX11_drawn_44 : decode cX11_drawn 44 = .ok (.istore 4, 2) := by decide +kernel
theorem dX11_drawn_46 : decode cX11_drawn 46 = .ok (.iload 4, 2) := by decide +kernel
theorem dX11_drawn_48 : decode cX11_drawn 48 = .ok (.iload_n 1, 1) := by decide +kernel
theorem dX11_drawn_49 : decode cX11_drawn 49 = .ok (.if_icmp .ge 54, 3) := by decide +kernel
theorem dX11_drawn_52 : decode cX11_drawn 52 = .ok (.aload_n 0, 1) := by decide +kernel
theorem dX11_drawn_53 : decode cX11_drawn 53 = .ok (.invokevirtual 334, 3) := by decide +kernel
theorem dX11_drawn_56 : decode cX11_drawn 56 = .ok (.aload_n 0, 1) := by decide +kernel
theorem dX11_drawn_57 : decode cX11_drawn 57 = .ok (.iconst 0, 1) := by decide +kernel
theorem dX11_drawn_58 : decode cX11_drawn 58 = .ok (.invokevirtual 337, 3) := by decide +kernel
theorem dX11_drawn_61 : decode cX11_drawn 61 = .ok (.istore 5, 2) := by decide +kernel
theorem dX11_drawn_63 : decode cX11_drawn 63 = .ok (.iload 5, 2) := by decide +kernel
theorem dX11_drawn_65 : decode cX11_drawn 65 = .ok (.bipush 22, 2) := by decide +kernel
theorem dX11_drawn_67 : decode cX11_drawn 67 = .ok (.if_icmp .ne 22, 3) := by decide +kernel
theorem dX11_drawn_70 : decode cX11_drawn 70 = .ok (.aload_n 0, 1) := by decide +kernel
theorem dX11_drawn_71 : decode cX11_drawn 71 = .ok (.getfield 58, 3) := by decide +kernel
theorem dX11_drawn_74 : decode cX11_drawn 74 = .ok (.iconst 0, 1) := by decide +kernel
theorem dX11_drawn_75 : decode cX11_drawn 75 = .ok (.iconst 0, 1) := by decide +kernel
theorem dX11_drawn_76 : decode cX11_drawn 76 = .ok (.sipush 148, 3) := by decide +kernel
theorem dX11_drawn_79 : decode cX11_drawn 79 = .ok (.invokevirtual 340, 3) := by decide +kernel
theorem dX11_drawn_82 : decode cX11_drawn 82 = .ok (.aload_n 0, 1) := by decide +kernel
theorem dX11_drawn_83 : decode cX11_drawn 83 = .ok (.iconst 0, 1) := by decide +kernel
theorem dX11_drawn_84 : decode cX11_drawn 84 = .ok (.invokevirtual 337, 3) := by decide +kernel
theorem dX11_drawn_87 : decode cX11_drawn 87 = .ok (.istore 5, 2) := by decide +kernel
theorem dX11_drawn_89 : decode cX11_drawn 89 = .ok (.iload 5, 2) := by decide +kernel
theorem dX11_drawn_91 : decode cX11_drawn 91 = .ok (.ifCond .ne 6, 3) := by decide +kernel
theorem dX11_drawn_94 : decode cX11_drawn 94 = .ok (.iinc 3 1, 3) := by decide +kernel
theorem dX11_drawn_97 : decode cX11_drawn 97 = .ok (.iinc 4 1, 3) := by decide +kernel
theorem dX11_drawn_100 : decode cX11_drawn 100 = .ok (.goto (-54), 3) := by decide +kernel
theorem dX11_drawn_103 : decode cX11_drawn 103 = .ok (.iload_n 3, 1) := by decide +kernel
theorem dX11_drawn_104 : decode cX11_drawn 104 = .ok (.ifCond .le 11, 3) := by decide +kernel
theorem dX11_drawn_107 : decode cX11_drawn 107 = .ok (.aload_n 0, 1) := by decide +kernel
theorem dX11_drawn_108 : decode cX11_drawn 108 = .ok (.aload_n 0, 1) := by decide +kernel
theorem dX11_drawn_109 : decode cX11_drawn 109 = .ok (.getfield 74, 3) := by decide +kernel
theorem dX11_drawn_112 : decode cX11_drawn 112 = .ok (.invokevirtual 148, 3) := by decide +kernel
theorem dX11_drawn_115 : decode cX11_drawn 115 = .ok (.iload_n 3, 1) := by decide +kernel
theorem dX11_drawn_116 : decode cX11_drawn 116 = .ok (.ireturn, 1) := by decide +kernel
abbrev M_X11_drawn : mM := (cX11_drawn, 6, RX11, some .int, false, 7, 192, 0, 0)
theorem gX11_drawn : cI yX11_drawn M_X11_drawn 2 := ⟨(wsl_63 _ (List.mem_of_getElem? (i := 11) rfl)), (wsl_63 _ (List.mem_of_getElem? (i := 12) rfl)), (wsl_1 _ (List.mem_of_getElem? (i := 2) rfl)), (wsl_63 _ (List.mem_of_getElem? (i := 13) rfl)), by decide +kernel⟩
noncomputable def fX11_drawn_b89 (h : hH) (a0 a1 l3 l4 l5 : Int) : Option ((hH × Int × Int) ⊕ (Int × hH)) :=
  if l5 = 0 then
    some (.inl (h, w32 (l3 + 1), w32 (l4 + 1)))
  else
    some (.inl (h, l3, w32 (l4 + 1)))
noncomputable def fX11_drawn_s46 (h0 : hH) (a0 a1 : Int) : hH × Int × Int → Option ((hH × Int × Int) ⊕ (Int × hH)) := fun (h, l3, l4) =>
  if l4 < a1 then
    (fX11_drawLine h a0).bind fun h53 =>
    (fX11_runLine h53 a0 0).bind fun q58 =>
    if q58.1 = 22 then
      (fX2_setPart q58.2 (q58.2 a0 6) 0 0 148).bind fun h79 =>
      (fX11_runLine h79 a0 0).bind fun q84 =>
      fX11_drawn_b89 q84.2 a0 a1 l3 l4 q84.1
    else
      fX11_drawn_b89 q58.2 a0 a1 l3 l4 q58.1
  else
    if 0 < l3 then
      (fX11_keepForUndo h a0 (h a0 9)).bind fun h112 =>
      some (.inr ((l3, h112)))
    else
      some (.inr ((l3, h)))
noncomputable def fX11_drawn (h : hH) (a0 a1 a2 : Int) : Option (Int × hH) :=
  if a1 < 1 then
    some (-1, h)
  else
    if 40 < a1 then
      some (-1, h)
    else
      if h (h a0 1) 0 = 0 then
        some (0, h)
      else
        (fX8_copyFrom h (h a0 9) (h a0 2)).bind fun h33 =>
        (pput h33 a0 18 a2).bind fun h38 =>
        lpO (fX11_drawn_s46 h38 a0 a1) (h38, 0, 0)
section M_X11_drawn
variable {p : Program} {l : Launch} {e : Env} {R : Room} {s : State} {m : MethodId} {args : Array Value} {below : List Frame} {meth : Method} {c : Code} {D : va_G} {G : gG} {A : Nat → Prop} {H0 : Heap} {n0 : Int} {x : Option vV × hH} {h : hH}
set_option maxRecDepth 100000 in
set_option maxHeartbeats 4000000 in
theorem oX11_drawn_b89 {a0 a1 l3 l4 l5 : Int} {K : (hH × Int × Int) ⊕ (Int × hH) → Prop} (k0 : ∀ r, K (.inr (r)) → x = (some (0, r.1), r.2)) (k1 : ∀ (h : hH) (l3 : Int) (l4 : Int), K (.inl (h, l3, l4)) → Wq p l e R s m args below meth c D G A H0 true n0 M_X11_drawn x 0 0 46 [(0, (21, a0)), (1, (0, a1)), (3, (0, l3)), (4, (0, l4))] [] h) {r : (hH × Int × Int) ⊕ (Int × hH)} (hr : fX11_drawn_b89 h a0 a1 l3 l4 l5 = some r) (hk : K r) : Wq p l e R s m args below meth c D G A H0 true n0 M_X11_drawn x 0 0 89 [(0, (21, a0)), (1, (0, a1)), (3, (0, l3)), (4, (0, l4)), (5, (0, l5))] [] h := by
  unfold fX11_drawn_b89 at hr
  refine r_iload dX11_drawn_89 4 rfl (Or.inl rfl) ?_
  refine r_if_ne dX11_drawn_91 (tgt := 97) (by decide) (fun hc => ?_) (fun hc => ?_)
  · have hr := ifn hr hc
    refine r_iinc (k := 3) (v := l4) dX11_drawn_97 rfl (by decide) (lv' := [(4, (0, w32 (l4 + 1))), (0, (21, a0)), (1, (0, a1)), (3, (0, l3)), (5, (0, l5))]) rfl ?_
    refine r_goto dX11_drawn_100 (tgt := 46) (by decide) ?_
    refine r_sub [1, 2, 3, 0] (lv' := [(0, (21, a0)), (1, (0, a1)), (3, (0, l3)), (4, (0, w32 (l4 + 1)))]) rfl ?_
    obtain rfl := Option.some.inj hr
    exact k1 _ _ _ hk
  · have hr := ifp hr hc
    refine r_iinc (k := 2) (v := l3) dX11_drawn_94 rfl (by decide) (lv' := [(3, (0, w32 (l3 + 1))), (0, (21, a0)), (1, (0, a1)), (4, (0, l4)), (5, (0, l5))]) rfl ?_
    refine r_iinc (k := 3) (v := l4) dX11_drawn_97 rfl (by decide) (lv' := [(4, (0, w32 (l4 + 1))), (3, (0, w32 (l3 + 1))), (0, (21, a0)), (1, (0, a1)), (5, (0, l5))]) rfl ?_
    refine r_goto dX11_drawn_100 (tgt := 46) (by decide) ?_
    refine r_sub [2, 3, 1, 0] (lv' := [(0, (21, a0)), (1, (0, a1)), (3, (0, w32 (l3 + 1))), (4, (0, w32 (l4 + 1)))]) rfl ?_
    obtain rfl := Option.some.inj hr
    exact k1 _ _ _ hk
set_option maxRecDepth 100000 in
set_option maxHeartbeats 4000000 in
theorem oX11_drawn_s46 {h0 : hH} {a0 a1 l3 l4 : Int} {K : (hH × Int × Int) ⊕ (Int × hH) → Prop} (k0 : ∀ r, K (.inr (r)) → x = (some (0, r.1), r.2)) (k1 : ∀ (h : hH) (l3 : Int) (l4 : Int), K (.inl (h, l3, l4)) → Wq p l e R s m args below meth c D G A H0 true n0 M_X11_drawn x 0 0 46 [(0, (21, a0)), (1, (0, a1)), (3, (0, l3)), (4, (0, l4))] [] h) {r : (hH × Int × Int) ⊕ (Int × hH)} (hr : fX11_drawn_s46 h0 a0 a1 (h, l3, l4) = some r) (hk : K r) : Wq p l e R s m args below meth c D G A H0 true n0 M_X11_drawn x 0 0 46 [(0, (21, a0)), (1, (0, a1)), (3, (0, l3)), (4, (0, l4))] [] h := by
  unfold fX11_drawn_s46 at hr
  refine r_iload dX11_drawn_46 3 rfl (Or.inl rfl) ?_
  refine r_iload_n dX11_drawn_48 rfl 1 rfl (Or.inl rfl) ?_
  refine r_icmp_ge dX11_drawn_49 (tgt := 103) (by decide) (fun hc => ?_) (fun hc => ?_)
  · have hr := ifn hr hc
    refine r_iload_n dX11_drawn_103 rfl 2 rfl (Or.inl rfl) ?_
    refine r_if_le dX11_drawn_104 (tgt := 115) (by decide) (fun hc => ?_) (fun hc => ?_)
    · have hr := ifn hr hc
      refine r_iload_n dX11_drawn_115 rfl 2 rfl (Or.inl rfl) ?_
      obtain rfl := Option.some.inj hr
      exact r_ret dX11_drawn_116 rfl (Or.inl ⟨rfl, rfl⟩) (k0 _ hk) ⟨rfl, rfl⟩
    · have hr := ifp hr hc
      refine r_aload_n dX11_drawn_107 rfl 0 rfl (nl rfl) ?_
      refine r_aload_n dX11_drawn_108 rfl 0 rfl (nl rfl) ?_
      refine r_get 11 9 (o := a0) (w := (18, h a0 9)) (T := TX11) (ref := "FollowingRefs") rfl (by decide) rfl (by decide) inlX11 (wsl_2 _ (List.mem_of_getElem? (i := 22) rfl)) rfl dX11_drawn_109 rfl ?_
      obtain ⟨h112, hg112, hr⟩ := bnd hr
      refine k_V (ci := 11) (o := a0) (T := TX11) (as := [(18, h a0 9)]) (rest := []) (X := (none, h112)) (oX11_keepForUndo hg112) gX11_keepForUndo rfl (by decide) rfl (wsl_39 _ (List.mem_of_getElem? (i := 17) rfl)) rfl dX11_drawn_112 rfl ?_
      refine r_iload_n dX11_drawn_115 rfl 2 rfl (Or.inl rfl) ?_
      obtain rfl := Option.some.inj hr
      exact r_ret dX11_drawn_116 rfl (Or.inl ⟨rfl, rfl⟩) (k0 _ hk) ⟨rfl, rfl⟩
  · have hr := ifp hr hc
    refine r_aload_n dX11_drawn_52 rfl 0 rfl (nl rfl) ?_
    obtain ⟨h53, hg53, hr⟩ := bnd hr
    refine k_V (ci := 11) (o := a0) (T := TX11) (as := []) (rest := []) (X := (none, h53)) (oX11_drawLine hg53) gX11_drawLine rfl (by decide) rfl (wsl_63 _ (List.mem_of_getElem? (i := 15) rfl)) rfl dX11_drawn_53 rfl ?_
    refine r_aload_n dX11_drawn_56 rfl 0 rfl (nl rfl) ?_
    refine r_iconst dX11_drawn_57 (by decide) ?_
    obtain ⟨q58, hg58, hr⟩ := bnd hr
    refine k_V (ci := 11) (o := a0) (T := TX11) (as := [(0, 0)]) (rest := []) (X := (some (0, q58.1), q58.2)) (oX11_runLine hg58) gX11_runLine rfl (by decide) rfl (wsl_64 _ (List.mem_of_getElem? (i := 3) rfl)) rfl dX11_drawn_58 rfl ?_
    refine r_istore dX11_drawn_61 (Or.inl rfl) (by decide) (lv' := [(5, (0, q58.1)), (0, (21, a0)), (1, (0, a1)), (3, (0, l3)), (4, (0, l4))]) rfl ?_
    refine r_iload dX11_drawn_63 0 rfl (Or.inl rfl) ?_
    refine r_bipush dX11_drawn_65 (by decide) (by decide) ?_
    refine r_icmp_ne dX11_drawn_67 (tgt := 89) (by decide) (fun hc => ?_) (fun hc => ?_)
    · have hr := ifn hr hc
      refine r_sub [1, 2, 3, 4, 0] (lv' := [(0, (21, a0)), (1, (0, a1)), (3, (0, l3)), (4, (0, l4)), (5, (0, q58.1))]) rfl ?_
      exact oX11_drawn_b89 (K := K) (fun r z => k0 r z) (fun _ _ _ z => k1 _ _ _ z) hr hk
    · have hr := ifp hr hc
      refine r_aload_n dX11_drawn_70 rfl 1 rfl (nl rfl) ?_
      refine r_get 11 6 (o := a0) (w := (12, q58.2 a0 6)) (T := TX11) (ref := "FollowingRefs") rfl (by decide) rfl (by decide) inlX11 (wsl_2 _ (List.mem_of_getElem? (i := 16) rfl)) rfl dX11_drawn_71 rfl ?_
      refine r_iconst dX11_drawn_74 (by decide) ?_
      refine r_iconst dX11_drawn_75 (by decide) ?_
      refine r_sipush dX11_drawn_76 (by decide) (by decide) ?_
      obtain ⟨h79, hg79, hr⟩ := bnd hr
      refine k_V (ci := 2) (o := q58.2 a0 6) (T := TX2) (as := [(0, 0), (0, 0), (0, 148)]) (rest := []) (X := (none, h79)) (oX2_setPart hg79) gX2_setPart rfl (by decide) rfl (wsl_64 _ (List.mem_of_getElem? (i := 1) rfl)) rfl dX11_drawn_79 rfl ?_
      refine r_aload_n dX11_drawn_82 rfl 1 rfl (nl rfl) ?_
      refine r_iconst dX11_drawn_83 (by decide) ?_
      obtain ⟨q84, hg84, hr⟩ := bnd hr
      refine k_V (ci := 11) (o := a0) (T := TX11) (as := [(0, 0)]) (rest := []) (X := (some (0, q84.1), q84.2)) (oX11_runLine hg84) gX11_runLine rfl (by decide) rfl (wsl_64 _ (List.mem_of_getElem? (i := 3) rfl)) rfl dX11_drawn_84 rfl ?_
      refine r_istore dX11_drawn_87 (Or.inl rfl) (by decide) (lv' := [(5, (0, q84.1)), (0, (21, a0)), (1, (0, a1)), (3, (0, l3)), (4, (0, l4))]) rfl ?_
      refine r_sub [1, 2, 3, 4, 0] (lv' := [(0, (21, a0)), (1, (0, a1)), (3, (0, l3)), (4, (0, l4)), (5, (0, q84.1))]) rfl ?_
      exact oX11_drawn_b89 (K := K) (fun r z => k0 r z) (fun _ _ _ z => k1 _ _ _ z) hr hk
set_option maxRecDepth 100000 in
set_option maxHeartbeats 4000000 in
theorem oX11_drawn_b0 {a0 a1 a2 : Int} {K : Int × hH → Prop} (k0 : ∀ r, K (r) → x = (some (0, r.1), r.2)) {r : Int × hH} (hr : fX11_drawn h a0 a1 a2 = some r) (hk : K r) : Wq p l e R s m args below meth c D G A H0 true n0 M_X11_drawn x 0 0 0 [(0, (21, a0)), (1, (0, a1)), (2, (0, a2))] [] h := by
  unfold fX11_drawn at hr
  refine r_iload_n dX11_drawn_0 rfl 1 rfl (Or.inl rfl) ?_
  refine r_iconst dX11_drawn_1 (by decide) ?_
  refine r_icmp_lt dX11_drawn_2 (tgt := 11) (by decide) (fun hc => ?_) (fun hc => ?_)
  · have hr := ifp hr hc
    refine r_iconst dX11_drawn_11 (by decide) ?_
    obtain rfl := Option.some.inj hr
    exact r_ret dX11_drawn_12 rfl (Or.inl ⟨rfl, rfl⟩) (k0 _ hk) ⟨rfl, rfl⟩
  · have hr := ifn hr hc
    refine r_iload_n dX11_drawn_5 rfl 1 rfl (Or.inl rfl) ?_
    refine r_bipush dX11_drawn_6 (by decide) (by decide) ?_
    refine r_icmp_le dX11_drawn_8 (tgt := 13) (by decide) (fun hc => ?_) (fun hc => ?_)
    · have hr := ifn hr hc
      refine r_aload_n dX11_drawn_13 rfl 0 rfl (nl rfl) ?_
      refine r_get 11 1 (o := a0) (w := (14, h a0 1)) (T := TX11) (ref := "FollowingRefs") rfl (by decide) rfl (by decide) inlX11 (wsl_1 _ (List.mem_of_getElem? (i := 20) rfl)) rfl dX11_drawn_14 rfl ?_
      refine r_get 4 0 (o := h a0 1) (w := (0, h (h a0 1) 0)) (T := TX4) (ref := "FollowingRefs$Schema") rfl (by decide) rfl (by decide) inlX4 (wsl_52 _ (List.mem_of_getElem? (i := 22) rfl)) rfl dX11_drawn_17 rfl ?_
      refine r_if_ne dX11_drawn_20 (tgt := 25) (by decide) (fun hc => ?_) (fun hc => ?_)
      · have hr := ifn hr hc
        refine r_aload_n dX11_drawn_25 rfl 0 rfl (nl rfl) ?_
        refine r_get 11 9 (o := a0) (w := (18, h a0 9)) (T := TX11) (ref := "FollowingRefs") rfl (by decide) rfl (by decide) inlX11 (wsl_2 _ (List.mem_of_getElem? (i := 22) rfl)) rfl dX11_drawn_26 rfl ?_
        refine r_aload_n dX11_drawn_29 rfl 0 rfl (nl rfl) ?_
        refine r_get 11 2 (o := a0) (w := (18, h a0 2)) (T := TX11) (ref := "FollowingRefs") rfl (by decide) rfl (by decide) inlX11 (wsl_2 _ (List.mem_of_getElem? (i := 0) rfl)) rfl dX11_drawn_30 rfl ?_
        obtain ⟨h33, hg33, hr⟩ := bnd hr
        refine k_V (ci := 8) (o := h a0 9) (T := TX8) (as := [(18, h a0 2)]) (rest := []) (X := (none, h33)) (oX8_copyFrom hg33) gX8_copyFrom rfl (by decide) rfl (wsl_40 _ (List.mem_of_getElem? (i := 1) rfl)) rfl dX11_drawn_33 rfl ?_
        refine r_aload_n dX11_drawn_36 rfl 0 rfl (nl rfl) ?_
        refine r_iload_n dX11_drawn_37 rfl 2 rfl (Or.inl rfl) ?_
        obtain ⟨h38, hg38, hr⟩ := bnd hr
        refine r_put' 11 18 (t := 0) (ref := "FollowingRefs") hg38 rfl tyX11 tyX11_ok nmX11 rfl (by decide) rfl (by decide) inlX11 (wsl_63 _ (List.mem_of_getElem? (i := 14) rfl)) rfl rfl (by decide +kernel) (by decide) rfl (Or.inl ⟨rfl, rfl⟩) dX11_drawn_38 ?_
        refine r_iconst dX11_drawn_41 (by decide) ?_
        refine r_istore_n dX11_drawn_42 rfl (Or.inl rfl) (by decide) (lv' := [(3, (0, 0)), (0, (21, a0)), (1, (0, a1)), (2, (0, a2))]) rfl ?_
        refine r_iconst dX11_drawn_43 (by decide) ?_
        refine r_istore dX11_drawn_44 (Or.inl rfl) (by decide) (lv' := [(4, (0, 0)), (3, (0, 0)), (0, (21, a0)), (1, (0, a1)), (2, (0, a2))]) rfl ?_
        refine r_sub [2, 3, 1, 0] (lv' := [(0, (21, a0)), (1, (0, a1)), (3, (0, 0)), (4, (0, 0))]) rfl ?_
        exact lp_ok (w := fun (q : hH × Int × Int) => Wq p l e R s m args below meth c D G A H0 true n0 M_X11_drawn x 0 0 46 [(0, (21, a0)), (1, (0, a1)), (3, (0, q.2.1)), (4, (0, q.2.2))] [] (q.1)) (K := K) (fun ⟨q0, q1, q2⟩ r h1 h2 => oX11_drawn_s46 (K := Sum.elim (fun (q : hH × Int × Int) => Wq p l e R s m args below meth c D G A H0 true n0 M_X11_drawn x 0 0 46 [(0, (21, a0)), (1, (0, a1)), (3, (0, q.2.1)), (4, (0, q.2.2))] [] (q.1)) (K)) (fun r z => k0 r z) (fun _ _ _ z => z) h1 h2) hr hk
      · have hr := ifp hr hc
        refine r_iconst dX11_drawn_23 (by decide) ?_
        obtain rfl := Option.some.inj hr
        exact r_ret dX11_drawn_24 rfl (Or.inl ⟨rfl, rfl⟩) (k0 _ hk) ⟨rfl, rfl⟩
    · have hr := ifp hr hc
      refine r_iconst dX11_drawn_11 (by decide) ?_
      obtain rfl := Option.some.inj hr
      exact r_ret dX11_drawn_12 rfl (Or.inl ⟨rfl, rfl⟩) (k0 _ hk) ⟨rfl, rfl⟩
end M_X11_drawn
theorem oX11_drawn {l : Launch} {D : va_G} {G : gG} {h : hH} {a0 a1 a2 : Int} {r : Int × hH} (hr : fX11_drawn h a0 a1 a2 = some r) : Ctr l D G true yX11_drawn M_X11_drawn [(21, a0), (0, a1), (0, a2)] h (some (0, r.1), r.2) :=
  Ctr_of (by decide) rfl (fun z => by cases z) (nl rfl) (fun {p e R s m args below meth c A H0} => by
    exact oX11_drawn_b0 (K := fun z9 => z9 = r) (fun r9 z => by rw [z]) hr rfl)
