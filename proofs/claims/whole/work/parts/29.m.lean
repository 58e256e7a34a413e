/-! X12_touched -/
theorem dX12_touched_0 : decode cX12_touched 0 = .ok (.aload_n 0, 1) := by decide +kernel
theorem dX12_touched_1 : decode cX12_touched 1 = .ok (.getfield 408, 3) := by decide +kernel
theorem dX12_touched_4 : decode cX12_touched 4 = .ok (.aload_n 0, 1) := by decide +kernel
theorem dX12_touched_5 : decode cX12_touched 5 = .ok (.getfield 411, 3) := by decide +kernel
theorem dX12_touched_8 : decode cX12_touched 8 = .ok (.iadd, 1) := by decide +kernel
theorem dX12_touched_9 : decode cX12_touched 9 = .ok (.aload_n 0, 1) := by decide +kernel
theorem dX12_touched_10 : decode cX12_touched 10 = .ok (.getfield 43, 3) := by decide +kernel
theorem dX12_touched_13 : decode cX12_touched 13 = .ok (.iload_n 1, 1) := by decide +kernel
theorem dX12_touched_14 : decode cX12_touched 14 = .ok (.iaload, 1) := by decide +kernel
theorem dX12_touched_15 : decode cX12_touched 15 = .ok (.ifCond .ne 7, 3) := by decide +kernel
theorem dX12_touched_18 : decode cX12_touched 18 = .ok (.iconst 1, 1) := by decide +kernel
theorem dX12_touched_19 : decode cX12_touched 19 = .ok (.goto 4, 3) := by decide +kernel
theorem dX12_touched_22 : decode cX12_touched 22 = .ok (.iconst 0, 1) := by decide +kernel
theorem dX12_touched_23 : decode cX12_touched 23 = .ok (.iadd, 1) := by decide +kernel
theorem dX12_touched_24 : decode cX12_touched 24 = .ok (.ireturn, 1) := by decide +kernel
abbrev M_X12_touched : mM := (cX12_touched, 2, RX12, some .int, false, 0, 0, 0, 0)
theorem gX12_touched : cI yX12_touched M_X12_touched 1 := ⟨(wsl_46 _ (List.mem_of_getElem? (i := 23) rfl)), (wsl_47 _ (List.mem_of_getElem? (i := 0) rfl)), (wsl_1 _ (List.mem_of_getElem? (i := 5) rfl)), (wsl_47 _ (List.mem_of_getElem? (i := 1) rfl)), by decide +kernel⟩
noncomputable def fX12_touched_b23 (h : hH) (s0 s1 : Int) : Option (Int) :=
  some (w32 (s1 + s0))
noncomputable def fX12_touched (h : hH) (a0 a1 : Int) : Option (Int) :=
  (aget h (h a0 9) a1).bind fun v14 =>
  if v14 = 0 then
    fX12_touched_b23 h 1 (w32 ((h a0 32) + (h a0 33)))
  else
    fX12_touched_b23 h 0 (w32 ((h a0 32) + (h a0 33)))
section M_X12_touched
variable {p : Program} {l : Launch} {e : Env} {R : Room} {s : State} {m : MethodId} {args : Array Value} {below : List Frame} {meth : Method} {c : Code} {D : va_G} {G : gG} {A : Nat → Prop} {H0 : Heap} {n0 : Int} {x : Option vV × hH} {h : hH}
set_option maxRecDepth 100000 in
set_option maxHeartbeats 4000000 in
theorem oX12_touched_b23 {s0 s1 : Int} {K : Int → Prop} (k0 : ∀ r, K (r) → x = (some (0, r), h)) {r : Int} (hr : fX12_touched_b23 h s0 s1 = some r) (hk : K r) : Wq p l e R s m args below meth c D G A H0 true n0 M_X12_touched x 0 0 23 [] [(2, s0), (0, s1)] h := by
  unfold fX12_touched_b23 at hr
  refine r_scast 0 (v := (2, s0)) (w := (0, s0)) rfl zc hTz (st' := [(0, s0), (0, s1)]) rfl ?_
  refine r_iadd dX12_touched_23 ?_
  obtain rfl := Option.some.inj hr
  exact r_ret dX12_touched_24 rfl (Or.inl ⟨rfl, rfl⟩) (k0 _ hk) ⟨rfl, rfl⟩
set_option maxRecDepth 100000 in
set_option maxHeartbeats 4000000 in
theorem oX12_touched_b0 {a0 a1 : Int} {K : Int → Prop} (k0 : ∀ r, K (r) → x = (some (0, r), h)) {r : Int} (hr : fX12_touched h a0 a1 = some r) (hk : K r) : Wq p l e R s m args below meth c D G A H0 true n0 M_X12_touched x 0 0 0 [(0, (22, a0)), (1, (0, a1))] [] h := by
  unfold fX12_touched at hr
  refine r_aload_n dX12_touched_0 rfl 0 rfl (nl rfl) ?_
  refine r_get 12 32 (o := a0) (w := (0, h a0 32)) (T := TX12) (ref := "FollowingRefsModel") rfl (by decide) rfl (by decide) inlX12 (wsl_42 _ (List.mem_of_getElem? (i := 4) rfl)) rfl dX12_touched_1 rfl ?_
  refine r_aload_n dX12_touched_4 rfl 0 rfl (nl rfl) ?_
  refine r_get 12 33 (o := a0) (w := (0, h a0 33)) (T := TX12) (ref := "FollowingRefsModel") rfl (by decide) rfl (by decide) inlX12 (wsl_42 _ (List.mem_of_getElem? (i := 5) rfl)) rfl dX12_touched_5 rfl ?_
  refine r_iadd dX12_touched_8 ?_
  refine r_aload_n dX12_touched_9 rfl 0 rfl (nl rfl) ?_
  refine r_get 12 9 (o := a0) (w := (50, h a0 9)) (T := TX12) (ref := "FollowingRefsModel") rfl (by decide) rfl (by decide) inlX12 (wsl_7 _ (List.mem_of_getElem? (i := 11) rfl)) rfl dX12_touched_10 rfl ?_
  refine r_iload_n dX12_touched_13 rfl 1 rfl (Or.inl rfl) ?_
  obtain ⟨v14, hg14, hr⟩ := bnd hr
  refine r_iald dX12_touched_14 hg14 ?_
  refine r_if_ne dX12_touched_15 (tgt := 22) (by decide) (fun hc => ?_) (fun hc => ?_)
  · have hr := ifn hr hc
    refine r_iconst dX12_touched_22 (by decide) ?_
    refine r_sub [] (lv' := []) rfl ?_
    refine r_scast 0 (v := (0, 0)) (w := (2, 0)) rfl cz (fun _ => Or.inl rfl) (st' := [(2, 0), (0, w32 ((h a0 32) + (h a0 33)))]) rfl ?_
    exact oX12_touched_b23 (K := K) (fun r z => k0 r z) hr hk
  · have hr := ifp hr hc
    refine r_iconst dX12_touched_18 (by decide) ?_
    refine r_goto dX12_touched_19 (tgt := 23) (by decide) ?_
    refine r_sub [] (lv' := []) rfl ?_
    refine r_scast 0 (v := (0, 1)) (w := (2, 1)) rfl cz (fun _ => Or.inr rfl) (st' := [(2, 1), (0, w32 ((h a0 32) + (h a0 33)))]) rfl ?_
    exact oX12_touched_b23 (K := K) (fun r z => k0 r z) hr hk
end M_X12_touched
theorem oX12_touched {l : Launch} {D : va_G} {G : gG} {h : hH} {a0 a1 : Int} {r : Int} (hr : fX12_touched h a0 a1 = some r) : Ctr l D G true yX12_touched M_X12_touched [(22, a0), (0, a1)] h (some (0, r), h) :=
  Ctr_of (by decide) rfl (fun z => by cases z) (nl rfl) (fun {p e R s m args below meth c A H0} => by
    exact oX12_touched_b0 (K := fun z9 => z9 = r) (fun r9 z => by rw [z]) hr rfl)
/-! X12_readsOne -/
theorem dX12_readsOne_0 : decode cX12_readsOne 0 = .ok (.aload_n 0, 1) := by decide +kernel
theorem dX12_readsOne_1 : decode cX12_readsOne 1 = .ok (.iconst 0, 1) := by decide +kernel
theorem dX12_readsOne_2 : decode cX12_readsOne 2 = .ok (.putfield 1, 3) := by decide +kernel
theorem dX12_readsOne_5 : decode cX12_readsOne 5 = .ok (.aload_n 0, 1) := by decide +kernel
theorem dX12_readsOne_6 : decode cX12_readsOne 6 = .ok (.sipush 200, 3) := by decide +kernel
theorem dX12_readsOne_9 : decode cX12_readsOne 9 = .ok (.invokevirtual 302, 3) := by decide +kernel
theorem dX12_readsOne_12 : decode cX12_readsOne 12 = .ok (.aload_n 0, 1) := by decide +kernel
theorem dX12_readsOne_13 : decode cX12_readsOne 13 = .ok (.iconst 0, 1) := by decide +kernel
theorem dX12_readsOne_14 : decode cX12_readsOne 14 = .ok (.putfield 214, 3) := by decide +kernel
theorem dX12_readsOne_17 : decode cX12_readsOne 17 = .ok (.aload_n 0, 1) := by decide +kernel
theorem dX12_readsOne_18 : decode cX12_readsOne 18 = .ok (.invokevirtual 226, 3) := by decide +kernel
theorem dX12_readsOne_21 : decode cX12_readsOne 21 = .ok (.aload_n 0, 1) := by decide +kernel
theorem dX12_readsOne_22 : decode cX12_readsOne 22 = .ok (.iconst 0, 1) := by decide +kernel
theorem dX12_readsOne_23 : decode cX12_readsOne 23 = .ok (.invokevirtual 436, 3) := by decide +kernel
theorem dX12_readsOne_26 : decode cX12_readsOne 26 = .ok (.ifCond .eq 22, 3) := by decide +kernel
theorem dX12_readsOne_29 : decode cX12_readsOne 29 = .ok (.aload_n 0, 1) := by decide +kernel
theorem dX12_readsOne_30 : decode cX12_readsOne 30 = .ok (.getfield 197, 3) := by decide +kernel
theorem dX12_readsOne_33 : decode cX12_readsOne 33 = .ok (.ifCond .eq 11, 3) := by decide +kernel
theorem dX12_readsOne_36 : decode cX12_readsOne 36 = .ok (.aload_n 0, 1) := by decide +kernel
theorem dX12_readsOne_37 : decode cX12_readsOne 37 = .ok (.iconst 1, 1) := by decide +kernel
theorem dX12_readsOne_38 : decode cX12_readsOne 38 = .ok (.invokevirtual 223, 3) := by decide +kernel
theorem dX12_readsOne_41 : decode cX12_readsOne 41 = .ok (.ifCond .eq 7, 3) := by decide +kernel
theorem dX12_readsOne_44 : decode cX12_readsOne 44 = .ok (.iconst 1, 1) := by decide +kernel
theorem dX12_readsOne_45 : decode cX12_readsOne 45 = .ok (.goto 4, 3) := by decide +kernel
theorem dX12_readsOne_48 : decode cX12_readsOne 48 = .ok (.iconst 0, 1) := by decide +kernel
theorem dX12_readsOne_49 : decode cX12_readsOne 49 = .ok (.ireturn, 1) := by decide +kernel
abbrev M_X12_readsOne : mM := (cX12_readsOne, 1, RX12, some .boolean, false, 7, 153, 0, 0)
theorem gX12_readsOne : cI yX12_readsOne M_X12_readsOne 0 := ⟨(wsl_40 _ (List.mem_of_getElem? (i := 12) rfl)), (wsl_40 _ (List.mem_of_getElem? (i := 13) rfl)), (wsl_1 _ (List.mem_of_getElem? (i := 5) rfl)), (wsl_40 _ (List.mem_of_getElem? (i := 14) rfl)), by decide +kernel⟩
noncomputable def fX12_readsOne_b44 (h : hH) : Option (Int × hH) :=
  some (1, h)
noncomputable def fX12_readsOne (h : hH) (a0 : Int) : Option (Int × hH) :=
  (pput h a0 0 0).bind fun h2 =>
  (fX12_taken h2 a0 200).bind fun h9 =>
  (pput h9 a0 16 0).bind fun h14 =>
  (fX12_next h14 a0).bind fun h18 =>
  (fX12_takesStatement h18 a0 0).bind fun q23 =>
  if q23.1 = 0 then
    some (0, q23.2)
  else
    if q23.2 a0 12 = 0 then
      fX12_readsOne_b44 q23.2
    else
      (fX12_bad q23.2 a0 1).bind fun q38 =>
      if q38.1 = 0 then
        some (0, q38.2)
      else
        fX12_readsOne_b44 q38.2
section M_X12_readsOne
variable {p : Program} {l : Launch} {e : Env} {R : Room} {s : State} {m : MethodId} {args : Array Value} {below : List Frame} {meth : Method} {c : Code} {D : va_G} {G : gG} {A : Nat → Prop} {H0 : Heap} {n0 : Int} {x : Option vV × hH} {h : hH}
set_option maxRecDepth 100000 in
set_option maxHeartbeats 4000000 in
theorem oX12_readsOne_b44 {K : Int × hH → Prop} (k0 : ∀ r, K (r) → x = (some (2, r.1), r.2)) {r : Int × hH} (hr : fX12_readsOne_b44 h  = some r) (hk : K r) : Wq p l e R s m args below meth c D G A H0 true n0 M_X12_readsOne x 0 0 44 [] [] h := by
  unfold fX12_readsOne_b44 at hr
  refine r_iconst dX12_readsOne_44 (by decide) ?_
  refine r_goto dX12_readsOne_45 (tgt := 49) (by decide) ?_
  refine r_scast 0 (v := (0, 1)) (w := (2, 1)) rfl cz (fun _ => Or.inr rfl) (st' := [(2, 1)]) rfl ?_
  obtain rfl := Option.some.inj hr
  exact r_ret dX12_readsOne_49 rfl (Or.inr ⟨rfl, rfl⟩) (k0 _ hk) ⟨rfl, rfl⟩
set_option maxRecDepth 100000 in
set_option maxHeartbeats 4000000 in
theorem oX12_readsOne_b0 {a0 : Int} {K : Int × hH → Prop} (k0 : ∀ r, K (r) → x = (some (2, r.1), r.2)) {r : Int × hH} (hr : fX12_readsOne h a0 = some r) (hk : K r) : Wq p l e R s m args below meth c D G A H0 true n0 M_X12_readsOne x 0 0 0 [(0, (22, a0))] [] h := by
  unfold fX12_readsOne at hr
  refine r_aload_n dX12_readsOne_0 rfl 0 rfl (nl rfl) ?_
  refine r_iconst dX12_readsOne_1 (by decide) ?_
  obtain ⟨h2, hg2, hr⟩ := bnd hr
  refine r_put' 12 0 (t := 0) (ref := "FollowingRefsModel") hg2 rfl tyX12 tyX12_ok nmX12 rfl (by decide) rfl (by decide) inlX12 (wsl_10 _ (List.mem_of_getElem? (i := 11) rfl)) rfl rfl (by decide +kernel) (by decide) rfl (Or.inl ⟨rfl, rfl⟩) dX12_readsOne_2 ?_
  refine r_aload_n dX12_readsOne_5 rfl 0 rfl (nl rfl) ?_
  refine r_sipush dX12_readsOne_6 (by decide) (by decide) ?_
  obtain ⟨h9, hg9, hr⟩ := bnd hr
  refine k_V (ci := 12) (o := a0) (T := TX12) (as := [(0, 200)]) (rest := []) (X := (none, h9)) (oX12_taken hg9) gX12_taken rfl (by decide) rfl (wsl_23 _ (List.mem_of_getElem? (i := 17) rfl)) rfl dX12_readsOne_9 rfl ?_
  refine r_aload_n dX12_readsOne_12 rfl 0 rfl (nl rfl) ?_
  refine r_iconst dX12_readsOne_13 (by decide) ?_
  obtain ⟨h14, hg14, hr⟩ := bnd hr
  refine r_put' 12 16 (t := 0) (ref := "FollowingRefsModel") hg14 rfl tyX12 tyX12_ok nmX12 rfl (by decide) rfl (by decide) inlX12 (wsl_23 _ (List.mem_of_getElem? (i := 12) rfl)) rfl rfl (by decide +kernel) (by decide) rfl (Or.inl ⟨rfl, rfl⟩) dX12_readsOne_14 ?_
  refine r_aload_n dX12_readsOne_17 rfl 0 rfl (nl rfl) ?_
  obtain ⟨h18, hg18, hr⟩ := bnd hr
  refine k_V (ci := 12) (o := a0) (T := TX12) (as := []) (rest := []) (X := (none, h18)) (oX12_next hg18) gX12_next rfl (by decide) rfl (wsl_24 _ (List.mem_of_getElem? (i := 0) rfl)) rfl dX12_readsOne_18 rfl ?_
  refine r_aload_n dX12_readsOne_21 rfl 0 rfl (nl rfl) ?_
  refine r_iconst dX12_readsOne_22 (by decide) ?_
  obtain ⟨q23, hg23, hr⟩ := bnd hr
  refine k_V (ci := 12) (o := a0) (T := TX12) (as := [(0, 0)]) (rest := []) (X := (some (2, q23.1), q23.2)) (oX12_takesStatement hg23) gX12_takesStatement rfl (by decide) rfl (wsl_40 _ (List.mem_of_getElem? (i := 15) rfl)) rfl dX12_readsOne_23 rfl ?_
  refine r_scast 0 (v := (2, q23.1)) (w := (0, q23.1)) rfl zc hTz (st' := [(0, q23.1)]) rfl ?_
  refine r_if_eq dX12_readsOne_26 (tgt := 48) (by decide) (fun hc => ?_) (fun hc => ?_)
  · have hr := ifp hr hc
    refine r_iconst dX12_readsOne_48 (by decide) ?_
    refine r_scast 0 (v := (0, 0)) (w := (2, 0)) rfl cz (fun _ => Or.inl rfl) (st' := [(2, 0)]) rfl ?_
    obtain rfl := Option.some.inj hr
    exact r_ret dX12_readsOne_49 rfl (Or.inr ⟨rfl, rfl⟩) (k0 _ hk) ⟨rfl, rfl⟩
  · have hr := ifn hr hc
    refine r_aload_n dX12_readsOne_29 rfl 0 rfl (nl rfl) ?_
    refine r_get 12 12 (o := a0) (w := (0, q23.2 a0 12)) (T := TX12) (ref := "FollowingRefsModel") rfl (by decide) rfl (by decide) inlX12 (wsl_23 _ (List.mem_of_getElem? (i := 14) rfl)) rfl dX12_readsOne_30 rfl ?_
    refine r_if_eq dX12_readsOne_33 (tgt := 44) (by decide) (fun hc => ?_) (fun hc => ?_)
    · have hr := ifp hr hc
      refine r_sub [] (lv' := []) rfl ?_
      exact oX12_readsOne_b44 (K := K) (fun r z => k0 r z) hr hk
    · have hr := ifn hr hc
      refine r_aload_n dX12_readsOne_36 rfl 0 rfl (nl rfl) ?_
      refine r_iconst dX12_readsOne_37 (by decide) ?_
      obtain ⟨q38, hg38, hr⟩ := bnd hr
      refine k_V (ci := 12) (o := a0) (T := TX12) (as := [(0, 1)]) (rest := []) (X := (some (2, q38.1), q38.2)) (oX12_bad hg38) gX12_bad rfl (by decide) rfl (wsl_25 _ (List.mem_of_getElem? (i := 6) rfl)) rfl dX12_readsOne_38 rfl ?_
      refine r_scast 0 (v := (2, q38.1)) (w := (0, q38.1)) rfl zc hTz (st' := [(0, q38.1)]) rfl ?_
      refine r_if_eq dX12_readsOne_41 (tgt := 48) (by decide) (fun hc => ?_) (fun hc => ?_)
      · have hr := ifp hr hc
        refine r_iconst dX12_readsOne_48 (by decide) ?_
        refine r_scast 0 (v := (0, 0)) (w := (2, 0)) rfl cz (fun _ => Or.inl rfl) (st' := [(2, 0)]) rfl ?_
        obtain rfl := Option.some.inj hr
        exact r_ret dX12_readsOne_49 rfl (Or.inr ⟨rfl, rfl⟩) (k0 _ hk) ⟨rfl, rfl⟩
      · have hr := ifn hr hc
        refine r_sub [] (lv' := []) rfl ?_
        exact oX12_readsOne_b44 (K := K) (fun r z => k0 r z) hr hk
end M_X12_readsOne
theorem oX12_readsOne {l : Launch} {D : va_G} {G : gG} {h : hH} {a0 : Int} {r : Int × hH} (hr : fX12_readsOne h a0 = some r) : Ctr l D G true yX12_readsOne M_X12_readsOne [(22, a0)] h (some (2, r.1), r.2) :=
  Ctr_of (by decide) rfl (fun z => by cases z) (nl rfl) (fun {p e R s m args below meth c A H0} => by
    exact oX12_readsOne_b0 (K := fun z9 => z9 = r) (fun r9 z => by rw [z]) hr rfl)
/-! X12_tellsViolations -/
theorem dX12_tellsViolations_0 : decode cX12_tellsViolations 0 = .ok (.aload_n 0, 1) := by decide +kernel
theorem dX12_tellsViolations_1 : decode cX12_tellsViolations 1 = .ok (.aload_n 0, 1) := by decide +kernel
theorem dX12_tellsViolations_2 : decode cX12_tellsViolations 2 = .ok (.getfield 327, 3) := by decide +kernel
theorem dX12_tellsViolations_5 : decode cX12_tellsViolations 5 = .ok (.putfield 459, 3) := by decide +kernel
theorem dX12_tellsViolations_8 : decode cX12_tellsViolations 8 = .ok (.iconst 0, 1) := by decide +kernel
theorem dX12_tellsViolations_9 : decode cX12_tellsViolations 9 = .ok (.istore_n 1, 1) := by decide +kernel
theorem dX12_tellsViolations_10 : decode cX12_tellsViolations 10 = .ok (.iload_n 1, 1) := by decide +kernel
theorem dX12_tellsViolations_11 : decode cX12_tellsViolations 11 = .ok (.aload_n 0, 1) := by decide +kernel
theorem dX12_tellsViolations_12 : decode cX12_tellsViolations 12 = .ok (.getfield 327, 3) := by decide +kernel
theorem dX12_tellsViolations_15 : decode cX12_tellsViolations 15 = .ok (.if_icmp .ge 45, 3) := by decide +kernel
theorem dX12_tellsViolations_18 : decode cX12_tellsViolations 18 = .ok (.aload_n 0, 1) := by decide +kernel
theorem dX12_tellsViolations_19 : decode cX12_tellsViolations 19 = .ok (.getfield 80, 3) := by decide +kernel
theorem dX12_tellsViolations_22 : decode cX12_tellsViolations 22 = .ok (.iload_n 1, 1) := by decide +kernel
theorem dX12_tellsViolations_23 : decode cX12_tellsViolations 23 = .ok (.aload_n 0, 1) := by decide +kernel
theorem dX12_tellsViolations_24 : decode cX12_tellsViolations 24 = .ok (.getfield 53, 3) := by decide +kernel
theorem dX12_tellsViolations_27 : decode cX12_tellsViolations 27 = .ok (.iload_n 1, 1) := by decide +kernel
theorem dX12_tellsViolations_28 : decode cX12_tellsViolations 28 = .ok (.iaload, 1) := by decide +kernel
theorem dX12_tellsViolations_29 : decode cX12_tellsViolations 29 = .ok (.iastore, 1) := by decide +kernel
theorem dX12_tellsViolations_30 : decode cX12_tellsViolations 30 = .ok (.aload_n 0, 1) := by decide +kernel
theorem dX12_tellsViolations_31 : decode cX12_tellsViolations 31 = .ok (.getfield 83, 3) := by decide +kernel
theorem dX12_tellsViolations_34 : decode cX12_tellsViolations 34 = .ok (.iload_n 1, 1) := by decide +kernel
theorem dX12_tellsViolations_35 : decode cX12_tellsViolations 35 = .ok (.aload_n 0, 1) := by decide +kernel
theorem dX12_tellsViolations_36 : decode cX12_tellsViolations 36 = .ok (.getfield 56, 3) := by decide +kernel
theorem dX12_tellsViolations_39 : decode cX12_tellsViolations 39 = .ok (.iload_n 1, 1) := by decide +kernel
theorem dX12_tellsViolations_40 : decode cX12_tellsViolations 40 = .ok (.iaload, 1) := by decide +kernel
theorem dX12_tellsViolations_41 : decode cX12_tellsViolations 41 = .ok (.iastore, 1) := by decide +kernel
theorem dX12_tellsViolations_42 : decode cX12_tellsViolations 42 = .ok (.aload_n 0, 1) := by decide +kernel
theorem dX12_tellsViolations_43 : decode cX12_tellsViolations 43 = .ok (.getfield 86, 3) := by decide +kernel
theorem dX12_tellsViolations_46 : decode cX12_tellsViolations 46 = .ok (.iload_n 1, 1) := by decide +kernel
theorem dX12_tellsViolations_47 : decode cX12_tellsViolations 47 = .ok (.aload_n 0, 1) := by decide +kernel
theorem dX12_tellsViolations_48 : decode cX12_tellsViolations 48 = .ok (.getfield 59, 3) := by decide +kernel
theorem dX12_tellsViolations_51 : decode cX12_tellsViolations 51 = .ok (.iload_n 1, 1) := by decide +kernel
theorem dX12_tellsViolations_52 : decode cX12_tellsViolations 52 = .ok (.iaload, 1) := by decide +kernel
theorem dX12_tellsViolations_53 : decode cX12_tellsViolations 53 = .ok (.iastore, 1) := by decide +kernel
theorem dX12_tellsViolations_54 : decode cX12_tellsViolations 54 = .ok (.iinc 1 1, 3) := by decide +kernel
theorem dX12_tellsViolations_57 : decode cX12_tellsViolations 57 = .ok (.goto (-47), 3) := by decide +kernel
theorem dX12_tellsViolations_60 : decode cX12_tellsViolations 60 = .ok (.return_, 1) := by decide +kernel
abbrev M_X12_tellsViolations : mM := (cX12_tellsViolations, 2, RX12, none, false, 0, 0, 0, 0)
theorem gX12_tellsViolations : cI yX12_tellsViolations M_X12_tellsViolations 0 := ⟨(wsl_46 _ (List.mem_of_getElem? (i := 14) rfl)), (wsl_46 _ (List.mem_of_getElem? (i := 15) rfl)), (wsl_1 _ (List.mem_of_getElem? (i := 5) rfl)), (wsl_46 _ (List.mem_of_getElem? (i := 16) rfl)), by decide +kernel⟩
noncomputable def fX12_tellsViolations_s10 (h0 : hH) (a0 : Int) : hH × Int → Option ((hH × Int) ⊕ (hH)) := fun (h, l1) =>
  if l1 < h a0 26 then
    (aget h (h a0 23) l1).bind fun v28 =>
    (aput h (h a0 38) l1 v28).bind fun h29 =>
    (aget h29 (h29 a0 24) l1).bind fun v40 =>
    (aput h29 (h29 a0 39) l1 v40).bind fun h41 =>
    (aget h41 (h41 a0 25) l1).bind fun v52 =>
    (aput h41 (h41 a0 40) l1 v52).bind fun h53 =>
    some (.inl (h53, w32 (l1 + 1)))
  else
    some (.inr (h))
noncomputable def fX12_tellsViolations (h : hH) (a0 : Int) : Option (hH) :=
  (pput h a0 41 (h a0 26)).bind fun h5 =>
  lpO (fX12_tellsViolations_s10 h5 a0) (h5, 0)
section M_X12_tellsViolations
variable {p : Program} {l : Launch} {e : Env} {R : Room} {s : State} {m : MethodId} {args : Array Value} {below : List Frame} {meth : Method} {c : Code} {D : va_G} {G : gG} {A : Nat → Prop} {H0 : Heap} {n0 : Int} {x : Option vV × hH} {h : hH}
set_option maxRecDepth 100000 in
set_option maxHeartbeats 4000000 in
theorem oX12_tellsViolations_s10 {h0 : hH} {a0 l1 : Int} {K : (hH × Int) ⊕ (hH) → Prop} (k0 : ∀ r, K (.inr (r)) → x = (none, r)) (k1 : ∀ (h : hH) (l1 : Int), K (.inl (h, l1)) → Wq p l e R s m args below meth c D G A H0 true n0 M_X12_tellsViolations x 0 0 10 [(0, (22, a0)), (1, (0, l1))] [] h) {r : (hH × Int) ⊕ (hH)} (hr : fX12_tellsViolations_s10 h0 a0 (h, l1) = some r) (hk : K r) : Wq p l e R s m args below meth c D G A H0 true n0 M_X12_tellsViolations x 0 0 10 [(0, (22, a0)), (1, (0, l1))] [] h := by
  unfold fX12_tellsViolations_s10 at hr
  refine r_iload_n dX12_tellsViolations_10 rfl 1 rfl (Or.inl rfl) ?_
  refine r_aload_n dX12_tellsViolations_11 rfl 0 rfl (nl rfl) ?_
  refine r_get 12 26 (o := a0) (w := (0, h a0 26)) (T := TX12) (ref := "FollowingRefsModel") rfl (by decide) rfl (by decide) inlX12 (wsl_42 _ (List.mem_of_getElem? (i := 7) rfl)) rfl dX12_tellsViolations_12 rfl ?_
  refine r_icmp_ge dX12_tellsViolations_15 (tgt := 60) (by decide) (fun hc => ?_) (fun hc => ?_)
  · have hr := ifn hr hc
    obtain rfl := Option.some.inj hr
    exact r_vret dX12_tellsViolations_60 rfl (k0 _ hk) ⟨rfl, rfl⟩
  · have hr := ifp hr hc
    refine r_aload_n dX12_tellsViolations_18 rfl 0 rfl (nl rfl) ?_
    refine r_get 12 38 (o := a0) (w := (50, h a0 38)) (T := TX12) (ref := "FollowingRefsModel") rfl (by decide) rfl (by decide) inlX12 (wsl_7 _ (List.mem_of_getElem? (i := 23) rfl)) rfl dX12_tellsViolations_19 rfl ?_
    refine r_iload_n dX12_tellsViolations_22 rfl 1 rfl (Or.inl rfl) ?_
    refine r_aload_n dX12_tellsViolations_23 rfl 0 rfl (nl rfl) ?_
    refine r_get 12 23 (o := a0) (w := (50, h a0 23)) (T := TX12) (ref := "FollowingRefsModel") rfl (by decide) rfl (by decide) inlX12 (wsl_7 _ (List.mem_of_getElem? (i := 14) rfl)) rfl dX12_tellsViolations_24 rfl ?_
    refine r_iload_n dX12_tellsViolations_27 rfl 1 rfl (Or.inl rfl) ?_
    obtain ⟨v28, hg28, hr⟩ := bnd hr
    refine r_iald dX12_tellsViolations_28 hg28 ?_
    obtain ⟨h29, hg29, hr⟩ := bnd hr
    refine r_iast dX12_tellsViolations_29 hg29 ?_
    refine r_aload_n dX12_tellsViolations_30 rfl 0 rfl (nl rfl) ?_
    refine r_get 12 39 (o := a0) (w := (50, h29 a0 39)) (T := TX12) (ref := "FollowingRefsModel") rfl (by decide) rfl (by decide) inlX12 (wsl_8 _ (List.mem_of_getElem? (i := 0) rfl)) rfl dX12_tellsViolations_31 rfl ?_
    refine r_iload_n dX12_tellsViolations_34 rfl 1 rfl (Or.inl rfl) ?_
    refine r_aload_n dX12_tellsViolations_35 rfl 0 rfl (nl rfl) ?_
    refine r_get 12 24 (o := a0) (w := (50, h29 a0 24)) (T := TX12) (ref := "FollowingRefsModel") rfl (by decide) rfl (by decide) inlX12 (wsl_7 _ (List.mem_of_getElem? (i := 15) rfl)) rfl dX12_tellsViolations_36 rfl ?_
    refine r_iload_n dX12_tellsViolations_39 rfl 1 rfl (Or.inl rfl) ?_
    obtain ⟨v40, hg40, hr⟩ := bnd hr
    refine r_iald dX12_tellsViolations_40 hg40 ?_
    obtain ⟨h41, hg41, hr⟩ := bnd hr
    refine r_iast dX12_tellsViolations_41 hg41 ?_
    refine r_aload_n dX12_tellsViolations_42 rfl 0 rfl (nl rfl) ?_
    refine r_get 12 40 (o := a0) (w := (50, h41 a0 40)) (T := TX12) (ref := "FollowingRefsModel") rfl (by decide) rfl (by decide) inlX12 (wsl_8 _ (List.mem_of_getElem? (i := 1) rfl)) rfl dX12_tellsViolations_43 rfl ?_
    refine r_iload_n dX12_tellsViolations_46 rfl 1 rfl (Or.inl rfl) ?_
    refine r_aload_n dX12_tellsViolations_47 rfl 0 rfl (nl rfl) ?_
    refine r_get 12 25 (o := a0) (w := (50, h41 a0 25)) (T := TX12) (ref := "FollowingRefsModel") rfl (by decide) rfl (by decide) inlX12 (wsl_7 _ (List.mem_of_getElem? (i := 16) rfl)) rfl dX12_tellsViolations_48 rfl ?_
    refine r_iload_n dX12_tellsViolations_51 rfl 1 rfl (Or.inl rfl) ?_
    obtain ⟨v52, hg52, hr⟩ := bnd hr
    refine r_iald dX12_tellsViolations_52 hg52 ?_
    obtain ⟨h53, hg53, hr⟩ := bnd hr
    refine r_iast dX12_tellsViolations_53 hg53 ?_
    refine r_iinc (k := 1) (v := l1) dX12_tellsViolations_54 rfl (by decide) (lv' := [(1, (0, w32 (l1 + 1))), (0, (22, a0))]) rfl ?_
    refine r_goto dX12_tellsViolations_57 (tgt := 10) (by decide) ?_
    refine r_sub [1, 0] (lv' := [(0, (22, a0)), (1, (0, w32 (l1 + 1)))]) rfl ?_
    obtain rfl := Option.some.inj hr
    exact k1 _ _ hk
set_option maxRecDepth 100000 in
set_option maxHeartbeats 4000000 in
theorem oX12_tellsViolations_b0 {a0 : Int} {K : hH → Prop} (k0 : ∀ r, K (r) → x = (none, r)) {r : hH} (hr : fX12_tellsViolations h a0 = some r) (hk : K r) : Wq p l e R s m args below meth c D G A H0 true n0 M_X12_tellsViolations x 0 0 0 [(0, (22, a0))] [] h := by
  unfold fX12_tellsViolations at hr
  refine r_aload_n dX12_tellsViolations_0 rfl 0 rfl (nl rfl) ?_
  refine r_aload_n dX12_tellsViolations_1 rfl 0 rfl (nl rfl) ?_
  refine r_get 12 26 (o := a0) (w := (0, h a0 26)) (T := TX12) (ref := "FollowingRefsModel") rfl (by decide) rfl (by decide) inlX12 (wsl_42 _ (List.mem_of_getElem? (i := 7) rfl)) rfl dX12_tellsViolations_2 rfl ?_
  obtain ⟨h5, hg5, hr⟩ := bnd hr
  refine r_put' 12 41 (t := 0) (ref := "FollowingRefsModel") hg5 rfl tyX12 tyX12_ok nmX12 rfl (by decide) rfl (by decide) inlX12 (wsl_46 _ (List.mem_of_getElem? (i := 17) rfl)) rfl rfl (by decide +kernel) (by decide) rfl (Or.inl ⟨rfl, rfl⟩) dX12_tellsViolations_5 ?_
  refine r_iconst dX12_tellsViolations_8 (by decide) ?_
  refine r_istore_n dX12_tellsViolations_9 rfl (Or.inl rfl) (by decide) (lv' := [(1, (0, 0)), (0, (22, a0))]) rfl ?_
  refine r_sub [1, 0] (lv' := [(0, (22, a0)), (1, (0, 0))]) rfl ?_
  exact lp_ok (w := fun (q : hH × Int) => Wq p l e R s m args below meth c D G A H0 true n0 M_X12_tellsViolations x 0 0 10 [(0, (22, a0)), (1, (0, q.2))] [] (q.1)) (K := K) (fun ⟨q0, q1⟩ r h1 h2 => oX12_tellsViolations_s10 (K := Sum.elim (fun (q : hH × Int) => Wq p l e R s m args below meth c D G A H0 true n0 M_X12_tellsViolations x 0 0 10 [(0, (22, a0)), (1, (0, q.2))] [] (q.1)) (K)) (fun r z => k0 r z) (fun _ _ z => z) h1 h2) hr hk
end M_X12_tellsViolations
theorem oX12_tellsViolations {l : Launch} {D : va_G} {G : gG} {h : hH} {a0 : Int} {r : hH} (hr : fX12_tellsViolations h a0 = some r) : Ctr l D G true yX12_tellsViolations M_X12_tellsViolations [(22, a0)] h (none, r) :=
  Ctr_of (by decide) rfl (fun z => by cases z) (nl rfl) (fun {p e R s m args below meth c A H0} => by
    exact oX12_tellsViolations_b0 (K := fun z9 => z9 = r) (fun r9 z => by rw [z]) hr rfl)
/-! X12_tells -/
theorem dX12_tells_0 : decode cX12_tells 0 = .ok (.aload_n 0, 1) := by decide +kernel
theorem dX12_tells_1 : decode cX12_tells 1 = .ok (.iconst 1, 1) := by decide +kernel
theorem dX12_tells_2 : decode cX12_tells 2 = .ok (.putfield 456, 3) := by decide +kernel
theorem dX12_tells_5 : decode cX12_tells 5 = .ok (.aload_n 0, 1) := by decide +kernel
theorem dX12_tells_6 : decode cX12_tells 6 = .ok (.getfield 74, 3) := by decide +kernel
theorem dX12_tells_9 : decode cX12_tells 9 = .ok (.iconst 0, 1) := by decide +kernel
theorem dX12_tells_10 : decode cX12_tells 10 = .ok (.iload_n 1, 1) := by decide +kernel
theorem dX12_tells_11 : decode cX12_tells 11 = .ok (.iastore, 1) := by decide +kernel
theorem dX12_tells_12 : decode cX12_tells 12 = .ok (.aload_n 0, 1) := by decide +kernel
theorem dX12_tells_13 : decode cX12_tells 13 = .ok (.getfield 74, 3) := by decide +kernel
theorem dX12_tells_16 : decode cX12_tells 16 = .ok (.iconst 1, 1) := by decide +kernel
theorem dX12_tells_17 : decode cX12_tells 17 = .ok (.aload_n 0, 1) := by decide +kernel
theorem dX12_tells_18 : decode cX12_tells 18 = .ok (.getfield 405, 3) := by decide +kernel
theorem dX12_tells_21 : decode cX12_tells 21 = .ok (.iastore, 1) := by decide +kernel
theorem dX12_tells_22 : decode cX12_tells 22 = .ok (.aload_n 0, 1) := by decide +kernel
theorem dX12_tells_23 : decode cX12_tells 23 = .ok (.getfield 74, 3) := by decide +kernel
theorem dX12_tells_26 : decode cX12_tells 26 = .ok (.iconst 2, 1) := by decide +kernel
theorem dX12_tells_27 : decode cX12_tells 27 = .ok (.aload_n 0, 1) := by decide +kernel
theorem dX12_tells_28 : decode cX12_tells 28 = .ok (.getfield 408, 3) := by decide +kernel
theorem dX12_tells_31 : decode cX12_tells 31 = .ok (.iastore, 1) := by decide +kernel
theorem dX12_tells_32 : decode cX12_tells 32 = .ok (.aload_n 0, 1) := by decide +kernel
theorem dX12_tells_33 : decode cX12_tells 33 = .ok (.getfield 74, 3) := by decide +kernel
theorem dX12_tells_36 : decode cX12_tells 36 = .ok (.iconst 3, 1) := by decide +kernel
theorem dX12_tells_37 : decode cX12_tells 37 = .ok (.iload_n 1, 1) := by decide +kernel
theorem dX12_tells_38 : decode cX12_tells 38 = .ok (.iconst 5, 1) := by decide +kernel
theorem dX12_tells_39 : decode cX12_tells 39 = .ok (.if_icmp .ne 7, 3) := by decide +kernel
theorem dX12_tells_42 : decode cX12_tells 42 = .ok (.iconst 0, 1) := by decide +kernel
theorem dX12_tells_43 : decode cX12_tells 43 = .ok (.goto 7, 3) := by decide +kernel
theorem dX12_tells_46 : decode cX12_tells 46 = .ok (.aload_n 0, 1) := by decide +kernel
theorem dX12_tells_47 : decode cX12_tells 47 = .ok (.getfield 411, 3) := by decide +kernel
theorem dX12_tells_50 : decode cX12_tells 50 = .ok (.iastore, 1) := by decide +kernel
theorem dX12_tells_51 : decode cX12_tells 51 = .ok (.iconst 0, 1) := by decide +kernel
theorem dX12_tells_52 : decode cX12_tells 52 = .ok (.istore_n 2, 1) := by decide +kernel
theorem dX12_tells_53 : decode cX12_tells 53 = .ok (.iload_n 2, 1) := by decide +kernel
theorem dX12_tells_54 : decode cX12_tells 54 = .ok (.bipush 99, 2) := by decide +kernel
theorem dX12_tells_56 : decode cX12_tells 56 = .ok (.if_icmp .ge 21, 3) := by decide +kernel
theorem dX12_tells_59 : decode cX12_tells 59 = .ok (.aload_n 0, 1) := by decide +kernel
theorem dX12_tells_60 : decode cX12_tells 60 = .ok (.getfield 77, 3) := by decide +kernel
theorem dX12_tells_63 : decode cX12_tells 63 = .ok (.iload_n 2, 1) := by decide +kernel
theorem dX12_tells_64 : decode cX12_tells 64 = .ok (.aload_n 0, 1) := by decide +kernel
theorem dX12_tells_65 : decode cX12_tells 65 = .ok (.getfield 68, 3) := by decide +kernel
theorem dX12_tells_68 : decode cX12_tells 68 = .ok (.iload_n 2, 1) := by decide +kernel
theorem dX12_tells_69 : decode cX12_tells 69 = .ok (.iaload, 1) := by decide +kernel
theorem dX12_tells_70 : decode cX12_tells 70 = .ok (.iastore, 1) := by decide +kernel
theorem dX12_tells_71 : decode cX12_tells 71 = .ok (.iinc 2 1, 3) := by decide +kernel
theorem dX12_tells_74 : decode cX12_tells 74 = .ok (.goto (-21), 3) := by decide +kernel
theorem dX12_tells_77 : decode cX12_tells 77 = .ok (.aload_n 0, 1) := by decide +kernel
theorem dX12_tells_78 : decode cX12_tells 78 = .ok (.invokevirtual 474, 3) := by decide +kernel
theorem dX12_tells_81 : decode cX12_tells 81 = .ok (.return_, 1) := by decide +kernel
abbrev M_X12_tells : mM := (cX12_tells, 3, RX12, none, false, 1, 21, 0, 0)
theorem gX12_tells : cI yX12_tells M_X12_tells 1 := ⟨(wsl_46 _ (List.mem_of_getElem? (i := 9) rfl)), (wsl_46 _ (List.mem_of_getElem? (i := 10) rfl)), (wsl_1 _ (List.mem_of_getElem? (i := 5) rfl)), (wsl_46 _ (List.mem_of_getElem? (i := 11) rfl)), by decide +kernel⟩
noncomputable def fX12_tells_s53 (h0 : hH) (a0 : Int) : hH × Int → Option ((hH × Int) ⊕ (hH)) := fun (h, l2) =>
  if l2 < 99 then
    (aget h (h a0 29) l2).bind fun v69 =>
    (aput h (h a0 37) l2 v69).bind fun h70 =>
    some (.inl (h70, w32 (l2 + 1)))
  else
    (fX12_tellsViolations h a0).bind fun h78 =>
    some (.inr (h78))
noncomputable def fX12_tells_b50 (h : hH) (a0 s0 s1 s2 : Int) : Option (hH) :=
  (aput h s2 s1 s0).bind fun h50 =>
  lpO (fX12_tells_s53 h50 a0) (h50, 0)
noncomputable def fX12_tells (h : hH) (a0 a1 : Int) : Option (hH) :=
  (pput h a0 42 1).bind fun h2 =>
  (aput h2 (h2 a0 36) 0 a1).bind fun h11 =>
  (aput h11 (h11 a0 36) 1 (h11 a0 31)).bind fun h21 =>
  (aput h21 (h21 a0 36) 2 (h21 a0 32)).bind fun h31 =>
  if a1 = 5 then
    fX12_tells_b50 h31 a0 0 3 (h31 a0 36)
  else
    fX12_tells_b50 h31 a0 (h31 a0 33) 3 (h31 a0 36)
section M_X12_tells
variable {p : Program} {l : Launch} {e : Env} {R : Room} {s : State} {m : MethodId} {args : Array Value} {below : List Frame} {meth : Method} {c : Code} {D : va_G} {G : gG} {A : Nat → Prop} {H0 : Heap} {n0 : Int} {x : Option vV × hH} {h : hH}
set_option maxRecDepth 100000 in
set_option maxHeartbeats 4000000 in
theorem oX12_tells_s53 {h0 : hH} {a0 l2 : Int} {K : (hH × Int) ⊕ (hH) → Prop} (k0 : ∀ r, K (.inr (r)) → x = (none, r)) (k1 : ∀ (h : hH) (l2 : Int), K (.inl (h, l2)) → Wq p l e R s m args below meth c D G A H0 true n0 M_X12_tells x 0 0 53 [(0, (22, a0)), (2, (0, l2))] [] h) {r : (hH × Int) ⊕ (hH)} (hr : fX12_tells_s53 h0 a0 (h, l2) = some r) (hk : K r) : Wq p l e R s m args below meth c D G A H0 true n0 M_X12_tells x 0 0 53 [(0, (22, a0)), (2, (0, l2))] [] h := by
  unfold fX12_tells_s53 at hr
  refine r_iload_n dX12_tells_53 rfl 1 rfl (Or.inl rfl) ?_
  refine r_bipush dX12_tells_54 (by decide) (by decide) ?_
  refine r_icmp_ge dX12_tells_56 (tgt := 77) (by decide) (fun hc => ?_) (fun hc => ?_)
  · have hr := ifn hr hc
    refine r_aload_n dX12_tells_77 rfl 0 rfl (nl rfl) ?_
    obtain ⟨h78, hg78, hr⟩ := bnd hr
    refine k_V (ci := 12) (o := a0) (T := TX12) (as := []) (rest := []) (X := (none, h78)) (oX12_tellsViolations hg78) gX12_tellsViolations rfl (by decide) rfl (wsl_46 _ (List.mem_of_getElem? (i := 13) rfl)) rfl dX12_tells_78 rfl ?_
    obtain rfl := Option.some.inj hr
    exact r_vret dX12_tells_81 rfl (k0 _ hk) ⟨rfl, rfl⟩
  · have hr := ifp hr hc
    refine r_aload_n dX12_tells_59 rfl 0 rfl (nl rfl) ?_
    refine r_get 12 37 (o := a0) (w := (50, h a0 37)) (T := TX12) (ref := "FollowingRefsModel") rfl (by decide) rfl (by decide) inlX12 (wsl_7 _ (List.mem_of_getElem? (i := 22) rfl)) rfl dX12_tells_60 rfl ?_
    refine r_iload_n dX12_tells_63 rfl 1 rfl (Or.inl rfl) ?_
    refine r_aload_n dX12_tells_64 rfl 0 rfl (nl rfl) ?_
    refine r_get 12 29 (o := a0) (w := (50, h a0 29)) (T := TX12) (ref := "FollowingRefsModel") rfl (by decide) rfl (by decide) inlX12 (wsl_7 _ (List.mem_of_getElem? (i := 19) rfl)) rfl dX12_tells_65 rfl ?_
    refine r_iload_n dX12_tells_68 rfl 1 rfl (Or.inl rfl) ?_
    obtain ⟨v69, hg69, hr⟩ := bnd hr
    refine r_iald dX12_tells_69 hg69 ?_
    obtain ⟨h70, hg70, hr⟩ := bnd hr
    refine r_iast dX12_tells_70 hg70 ?_
    refine r_iinc (k := 1) (v := l2) dX12_tells_71 rfl (by decide) (lv' := [(2, (0, w32 (l2 + 1))), (0, (22, a0))]) rfl ?_
    refine r_goto dX12_tells_74 (tgt := 53) (by decide) ?_
    refine r_sub [1, 0] (lv' := [(0, (22, a0)), (2, (0, w32 (l2 + 1)))]) rfl ?_
    obtain rfl := Option.some.inj hr
    exact k1 _ _ hk
set_option maxRecDepth 100000 in
set_option maxHeartbeats 4000000 in
theorem oX12_tells_b50 {a0 s0 s1 s2 : Int} {K : hH → Prop} (k0 : ∀ r, K (r) → x = (none, r)) {r : hH} (hr : fX12_tells_b50 h a0 s0 s1 s2 = some r) (hk : K r) : Wq p l e R s m args below meth c D G A H0 true n0 M_X12_tells x 0 0 50 [(0, (22, a0))] [(0, s0), (0, s1), (50, s2)] h := by
  unfold fX12_tells_b50 at hr
  obtain ⟨h50, hg50, hr⟩ := bnd hr
  refine r_iast dX12_tells_50 hg50 ?_
  refine r_iconst dX12_tells_51 (by decide) ?_
  refine r_istore_n dX12_tells_52 rfl (Or.inl rfl) (by decide) (lv' := [(2, (0, 0)), (0, (22, a0))]) rfl ?_
  refine r_sub [1, 0] (lv' := [(0, (22, a0)), (2, (0, 0))]) rfl ?_
  exact lp_ok (w := fun (q : hH × Int) => Wq p l e R s m args below meth c D G A H0 true n0 M_X12_tells x 0 0 53 [(0, (22, a0)), (2, (0, q.2))] [] (q.1)) (K := K) (fun ⟨q0, q1⟩ r h1 h2 => oX12_tells_s53 (K := Sum.elim (fun (q : hH × Int) => Wq p l e R s m args below meth c D G A H0 true n0 M_X12_tells x 0 0 53 [(0, (22, a0)), (2, (0, q.2))] [] (q.1)) (K)) (fun r z => k0 r z) (fun _ _ z => z) h1 h2) hr hk
set_option maxRecDepth 100000 in
set_option maxHeartbeats 4000000 in
theorem oX12_tells_b0 {a0 a1 : Int} {K : hH → Prop} (k0 : ∀ r, K (r) → x = (none, r)) {r : hH} (hr : fX12_tells h a0 a1 = some r) (hk : K r) : Wq p l e R s m args below meth c D G A H0 true n0 M_X12_tells x 0 0 0 [(0, (22, a0)), (1, (0, a1))] [] h := by
  unfold fX12_tells at hr
  refine r_aload_n dX12_tells_0 rfl 0 rfl (nl rfl) ?_
  refine r_iconst dX12_tells_1 (by decide) ?_
  refine r_scast 0 (v := (0, 1)) (w := (2, 1)) rfl cz (fun _ => Or.inr rfl) (st' := [(2, 1), (22, a0)]) rfl ?_
  obtain ⟨h2, hg2, hr⟩ := bnd hr
  refine r_put' 12 42 (t := 2) (ref := "FollowingRefsModel") hg2 rfl tyX12 tyX12_ok nmX12 rfl (by decide) rfl (by decide) inlX12 (wsl_46 _ (List.mem_of_getElem? (i := 12) rfl)) rfl rfl (by decide +kernel) (by decide) rfl (Or.inr (Or.inr (Or.inl ⟨rfl, rfl⟩))) dX12_tells_2 ?_
  refine r_aload_n dX12_tells_5 rfl 0 rfl (nl rfl) ?_
  refine r_get 12 36 (o := a0) (w := (50, h2 a0 36)) (T := TX12) (ref := "FollowingRefsModel") rfl (by decide) rfl (by decide) inlX12 (wsl_7 _ (List.mem_of_getElem? (i := 21) rfl)) rfl dX12_tells_6 rfl ?_
  refine r_iconst dX12_tells_9 (by decide) ?_
  refine r_iload_n dX12_tells_10 rfl 1 rfl (Or.inl rfl) ?_
  obtain ⟨h11, hg11, hr⟩ := bnd hr
  refine r_iast dX12_tells_11 hg11 ?_
  refine r_aload_n dX12_tells_12 rfl 0 rfl (nl rfl) ?_
  refine r_get 12 36 (o := a0) (w := (50, h11 a0 36)) (T := TX12) (ref := "FollowingRefsModel") rfl (by decide) rfl (by decide) inlX12 (wsl_7 _ (List.mem_of_getElem? (i := 21) rfl)) rfl dX12_tells_13 rfl ?_
  refine r_iconst dX12_tells_16 (by decide) ?_
  refine r_aload_n dX12_tells_17 rfl 0 rfl (nl rfl) ?_
  refine r_get 12 31 (o := a0) (w := (0, h11 a0 31)) (T := TX12) (ref := "FollowingRefsModel") rfl (by decide) rfl (by decide) inlX12 (wsl_42 _ (List.mem_of_getElem? (i := 3) rfl)) rfl dX12_tells_18 rfl ?_
  obtain ⟨h21, hg21, hr⟩ := bnd hr
  refine r_iast dX12_tells_21 hg21 ?_
  refine r_aload_n dX12_tells_22 rfl 0 rfl (nl rfl) ?_
  refine r_get 12 36 (o := a0) (w := (50, h21 a0 36)) (T := TX12) (ref := "FollowingRefsModel") rfl (by decide) rfl (by decide) inlX12 (wsl_7 _ (List.mem_of_getElem? (i := 21) rfl)) rfl dX12_tells_23 rfl ?_
  refine r_iconst dX12_tells_26 (by decide) ?_
  refine r_aload_n dX12_tells_27 rfl 0 rfl (nl rfl) ?_
  refine r_get 12 32 (o := a0) (w := (0, h21 a0 32)) (T := TX12) (ref := "FollowingRefsModel") rfl (by decide) rfl (by decide) inlX12 (wsl_42 _ (List.mem_of_getElem? (i := 4) rfl)) rfl dX12_tells_28 rfl ?_
  obtain ⟨h31, hg31, hr⟩ := bnd hr
  refine r_iast dX12_tells_31 hg31 ?_
  refine r_aload_n dX12_tells_32 rfl 0 rfl (nl rfl) ?_
  refine r_get 12 36 (o := a0) (w := (50, h31 a0 36)) (T := TX12) (ref := "FollowingRefsModel") rfl (by decide) rfl (by decide) inlX12 (wsl_7 _ (List.mem_of_getElem? (i := 21) rfl)) rfl dX12_tells_33 rfl ?_
  refine r_iconst dX12_tells_36 (by decide) ?_
  refine r_iload_n dX12_tells_37 rfl 1 rfl (Or.inl rfl) ?_
  refine r_iconst dX12_tells_38 (by decide) ?_
  refine r_icmp_ne dX12_tells_39 (tgt := 46) (by decide) (fun hc => ?_) (fun hc => ?_)
  · have hr := ifn hr hc
    refine r_aload_n dX12_tells_46 rfl 0 rfl (nl rfl) ?_
    refine r_get 12 33 (o := a0) (w := (0, h31 a0 33)) (T := TX12) (ref := "FollowingRefsModel") rfl (by decide) rfl (by decide) inlX12 (wsl_42 _ (List.mem_of_getElem? (i := 5) rfl)) rfl dX12_tells_47 rfl ?_
    refine r_sub [0] (lv' := [(0, (22, a0))]) rfl ?_
    exact oX12_tells_b50 (K := K) (fun r z => k0 r z) hr hk
  · have hr := ifp hr hc
    refine r_iconst dX12_tells_42 (by decide) ?_
    refine r_goto dX12_tells_43 (tgt := 50) (by decide) ?_
    refine r_sub [0] (lv' := [(0, (22, a0))]) rfl ?_
    exact oX12_tells_b50 (K := K) (fun r z => k0 r z) hr hk
end M_X12_tells
theorem oX12_tells {l : Launch} {D : va_G} {G : gG} {h : hH} {a0 a1 : Int} {r : hH} (hr : fX12_tells h a0 a1 = some r) : Ctr l D G true yX12_tells M_X12_tells [(22, a0), (0, a1)] h (none, r) :=
  Ctr_of (by decide) rfl (fun z => by cases z) (nl rfl) (fun {p e R s m args below meth c A H0} => by
    exact oX12_tells_b0 (K := fun z9 => z9 = r) (fun r9 z => by rw [z]) hr rfl)
/-! X12_stores -/
theorem dX12_stores_0 : decode cX12_stores 0 = .ok (.aload_n 0, 1) := by decide +kernel
theorem dX12_stores_1 : decode cX12_stores 1 = .ok (.getfield 314, 3) := by decide +kernel
theorem dX12_stores_4 : decode cX12_stores 4 = .ok (.bipush 8, 2) := by decide +kernel
theorem dX12_stores_6 : decode cX12_stores 6 = .ok (.if_icmp .ne 40, 3) := by decide +kernel
theorem dX12_stores_9 : decode cX12_stores 9 = .ok (.iconst 0, 1) := by decide +kernel
theorem dX12_stores_10 : decode cX12_stores 10 = .ok (.istore_n 2, 1) := by decide +kernel
theorem dX12_stores_11 : decode cX12_stores 11 = .ok (.iload_n 2, 1) := by decide +kernel
theorem dX12_stores_12 : decode cX12_stores 12 = .ok (.sipush 7637, 3) := by decide +kernel
theorem dX12_stores_15 : decode cX12_stores 15 = .ok (.if_icmp .ge 25, 3) := by decide +kernel
theorem dX12_stores_18 : decode cX12_stores 18 = .ok (.aload_n 0, 1) := by decide +kernel
theorem dX12_stores_19 : decode cX12_stores 19 = .ok (.getfield 89, 3) := by decide +kernel
theorem dX12_stores_22 : decode cX12_stores 22 = .ok (.iload_n 2, 1) := by decide +kernel
theorem dX12_stores_23 : decode cX12_stores 23 = .ok (.aload_n 0, 1) := by decide +kernel
theorem dX12_stores_24 : decode cX12_stores 24 = .ok (.getfield 89, 3) := by decide +kernel
theorem dX12_stores_27 : decode cX12_stores 27 = .ok (.iload_n 2, 1) := by decide +kernel
theorem dX12_stores_28 : decode cX12_stores 28 = .ok (.sipush 1091, 3) := by decide +kernel
theorem dX12_stores_31 : decode cX12_stores 31 = .ok (.iadd, 1) := by decide +kernel
theorem dX12_stores_32 : decode cX12_stores 32 = .ok (.iaload, 1) := by decide +kernel
theorem dX12_stores_33 : decode cX12_stores 33 = .ok (.iastore, 1) := by decide +kernel
theorem dX12_stores_34 : decode cX12_stores 34 = .ok (.iinc 2 1, 3) := by decide +kernel
theorem dX12_stores_37 : decode cX12_stores 37 = .ok (.goto (-26), 3) := by decide +kernel
theorem dX12_stores_40 : decode cX12_stores 40 = .ok (.aload_n 0, 1) := by decide +kernel
theorem dX12_stores_41 : decode cX12_stores 41 = .ok (.bipush 7, 2) := by decide +kernel
theorem dX12_stores_43 : decode cX12_stores 43 = .ok (.putfield 314, 3) := by decide +kernel
theorem dX12_stores_46 : decode cX12_stores 46 = .ok (.iconst 0, 1) := by decide +kernel
theorem dX12_stores_47 : decode cX12_stores 47 = .ok (.istore_n 2, 1) := by decide +kernel
theorem dX12_stores_48 : decode cX12_stores 48 = .ok (.iload_n 2, 1) := by decide +kernel
theorem dX12_stores_49 : decode cX12_stores 49 = .ok (.sipush 1091, 3) := by decide +kernel
theorem dX12_stores_52 : decode cX12_stores 52 = .ok (.if_icmp .ge 27, 3) := by decide +kernel
theorem dX12_stores_55 : decode cX12_stores 55 = .ok (.aload_n 0, 1) := by decide +kernel
theorem dX12_stores_56 : decode cX12_stores 56 = .ok (.getfield 89, 3) := by decide +kernel
theorem dX12_stores_59 : decode cX12_stores 59 = .ok (.sipush 1091, 3) := by decide +kernel
theorem dX12_stores_62 : decode cX12_stores 62 = .ok (.aload_n 0, 1) := by decide +kernel
theorem dX12_stores_63 : decode cX12_stores 63 = .ok (.getfield 314, 3) := by decide +kernel
theorem dX12_stores_66 : decode cX12_stores 66 = .ok (.imul, 1) := by decide +kernel
theorem dX12_stores_67 : decode cX12_stores 67 = .ok (.iload_n 2, 1) := by decide +kernel
theorem dX12_stores_68 : decode cX12_stores 68 = .ok (.iadd, 1) := by decide +kernel
theorem dX12_stores_69 : decode cX12_stores 69 = .ok (.aload_n 1, 1) := by decide +kernel
theorem dX12_stores_70 : decode cX12_stores 70 = .ok (.iload_n 2, 1) := by decide +kernel
theorem dX12_stores_71 : decode cX12_stores 71 = .ok (.iaload, 1) := by decide +kernel
theorem dX12_stores_72 : decode cX12_stores 72 = .ok (.iastore, 1) := by decide +kernel
theorem dX12_stores_73 : decode cX12_stores 73 = .ok (.iinc 2 1, 3) := by decide +kernel
theorem dX12_stores_76 : decode cX12_stores 76 = .ok (.goto (-28), 3) := by decide +kernel
theorem dX12_stores_79 : decode cX12_stores 79 = .ok (.aload_n 0, 1) := by decide +kernel
theorem dX12_stores_80 : decode cX12_stores 80 = .ok (.dup, 1) := by decide +kernel
theorem dX12_stores_81 : decode cX12_stores 81 = .ok (.getfield 314, 3) := by decide +kernel
theorem dX12_stores_84 : decode cX12_stores 84 = .ok (.iconst 1, 1) := by decide +kernel
theorem dX12_stores_85 : decode cX12_stores 85 = .ok (.iadd, 1) := by decide +kernel
theorem dX12_stores_86 : decode cX12_stores 86 = .ok (.putfield 314, 3) := by decide +kernel
theorem dX12_stores_89 : decode cX12_stores 89 = .ok (.return_, 1) := by decide +kernel
abbrev M_X12_stores : mM := (cX12_stores, 3, RX12, none, false, 0, 0, 0, 0)
theorem gX12_stores : cI yX12_stores M_X12_stores 1 := ⟨(wsl_46 _ (List.mem_of_getElem? (i := 19) rfl)), (wsl_46 _ (List.mem_of_getElem? (i := 20) rfl)), (wsl_1 _ (List.mem_of_getElem? (i := 5) rfl)), (wsl_46 _ (List.mem_of_getElem? (i := 21) rfl)), by decide +kernel⟩
noncomputable def fX12_stores_s48 (h0 : hH) (a0 a1 : Int) : hH × Int → Option ((hH × Int) ⊕ (hH)) := fun (h, l2) =>
  if l2 < 1091 then
    (aget h a1 l2).bind fun v71 =>
    (aput h (h a0 43) (w32 ((w32 (1091 * (h a0 44))) + l2)) v71).bind fun h72 =>
    some (.inl (h72, w32 (l2 + 1)))
  else
    (pput h a0 44 (w32 ((h a0 44) + 1))).bind fun h86 =>
    some (.inr (h86))
noncomputable def fX12_stores_b46 (h : hH) (a0 a1 : Int) : Option (hH) :=
  lpO (fX12_stores_s48 h a0 a1) (h, 0)
noncomputable def fX12_stores_s11 (h0 : hH) (a0 a1 : Int) : hH × Int → Option ((hH × Int) ⊕ (hH)) := fun (h, l2) =>
  if l2 < 7637 then
    (aget h (h a0 43) (w32 (l2 + 1091))).bind fun v32 =>
    (aput h (h a0 43) l2 v32).bind fun h33 =>
    some (.inl (h33, w32 (l2 + 1)))
  else
    (pput h a0 44 7).bind fun h43 =>
    (fX12_stores_b46 h43 a0 a1).map (fun z9 => .inr (z9))
noncomputable def fX12_stores (h : hH) (a0 a1 : Int) : Option (hH) :=
  if h a0 44 = 8 then
    lpO (fX12_stores_s11 h a0 a1) (h, 0)
  else
    fX12_stores_b46 h a0 a1
section M_X12_stores
variable {p : Program} {l : Launch} {e : Env} {R : Room} {s : State} {m : MethodId} {args : Array Value} {below : List Frame} {meth : Method} {c : Code} {D : va_G} {G : gG} {A : Nat → Prop} {H0 : Heap} {n0 : Int} {x : Option vV × hH} {h : hH}
set_option maxRecDepth 100000 in
set_option maxHeartbeats 4000000 in
theorem oX12_stores_s48 {h0 : hH} {a0 a1 l2 : Int} {K : (hH × Int) ⊕ (hH) → Prop} (k0 : ∀ r, K (.inr (r)) → x = (none, r)) (k1 : ∀ (h : hH) (l2 : Int), K (.inl (h, l2)) → Wq p l e R s m args below meth c D G A H0 true n0 M_X12_stores x 0 0 48 [(0, (22, a0)), (1, (50, a1)), (2, (0, l2))] [] h) {r : (hH × Int) ⊕ (hH)} (hr : fX12_stores_s48 h0 a0 a1 (h, l2) = some r) (hk : K r) : Wq p l e R s m args below meth c D G A H0 true n0 M_X12_stores x 0 0 48 [(0, (22, a0)), (1, (50, a1)), (2, (0, l2))] [] h := by
  unfold fX12_stores_s48 at hr
  refine r_iload_n dX12_stores_48 rfl 2 rfl (Or.inl rfl) ?_
  refine r_sipush dX12_stores_49 (by decide) (by decide) ?_
  refine r_icmp_ge dX12_stores_52 (tgt := 79) (by decide) (fun hc => ?_) (fun hc => ?_)
  · have hr := ifn hr hc
    refine r_aload_n dX12_stores_79 rfl 0 rfl (nl rfl) ?_
    refine r_dup dX12_stores_80 (Nat.ne_of_beq_eq_false rfl) ?_
    refine r_get 12 44 (o := a0) (w := (0, h a0 44)) (T := TX12) (ref := "FollowingRefsModel") rfl (by decide) rfl (by decide) inlX12 (wsl_23 _ (List.mem_of_getElem? (i := 16) rfl)) rfl dX12_stores_81 rfl ?_
    refine r_iconst dX12_stores_84 (by decide) ?_
    refine r_iadd dX12_stores_85 ?_
    obtain ⟨h86, hg86, hr⟩ := bnd hr
    refine r_put' 12 44 (t := 0) (ref := "FollowingRefsModel") hg86 rfl tyX12 tyX12_ok nmX12 rfl (by decide) rfl (by decide) inlX12 (wsl_23 _ (List.mem_of_getElem? (i := 16) rfl)) rfl rfl (by decide +kernel) (by decide) rfl (Or.inl ⟨rfl, rfl⟩) dX12_stores_86 ?_
    obtain rfl := Option.some.inj hr
    exact r_vret dX12_stores_89 rfl (k0 _ hk) ⟨rfl, rfl⟩
  · have hr := ifp hr hc
    refine r_aload_n dX12_stores_55 rfl 0 rfl (nl rfl) ?_
    refine r_get 12 43 (o := a0) (w := (50, h a0 43)) (T := TX12) (ref := "FollowingRefsModel") rfl (by decide) rfl (by decide) inlX12 (wsl_8 _ (List.mem_of_getElem? (i := 2) rfl)) rfl dX12_stores_56 rfl ?_
    refine r_sipush dX12_stores_59 (by decide) (by decide) ?_
    refine r_aload_n dX12_stores_62 rfl 0 rfl (nl rfl) ?_
    refine r_get 12 44 (o := a0) (w := (0, h a0 44)) (T := TX12) (ref := "FollowingRefsModel") rfl (by decide) rfl (by decide) inlX12 (wsl_23 _ (List.mem_of_getElem? (i := 16) rfl)) rfl dX12_stores_63 rfl ?_
    refine r_imul dX12_stores_66 ?_
    refine r_iload_n dX12_stores_67 rfl 2 rfl (Or.inl rfl) ?_
    refine r_iadd dX12_stores_68 ?_
    refine r_aload_n dX12_stores_69 rfl 1 rfl (nl rfl) ?_
    refine r_iload_n dX12_stores_70 rfl 2 rfl (Or.inl rfl) ?_
    obtain ⟨v71, hg71, hr⟩ := bnd hr
    refine r_iald dX12_stores_71 hg71 ?_
    obtain ⟨h72, hg72, hr⟩ := bnd hr
    refine r_iast dX12_stores_72 hg72 ?_
    refine r_iinc (k := 2) (v := l2) dX12_stores_73 rfl (by decide) (lv' := [(2, (0, w32 (l2 + 1))), (0, (22, a0)), (1, (50, a1))]) rfl ?_
    refine r_goto dX12_stores_76 (tgt := 48) (by decide) ?_
    refine r_sub [1, 2, 0] (lv' := [(0, (22, a0)), (1, (50, a1)), (2, (0, w32 (l2 + 1)))]) rfl ?_
    obtain rfl := Option.some.inj hr
    exact k1 _ _ hk
set_option maxRecDepth 100000 in
set_option maxHeartbeats 4000000 in
theorem oX12_stores_b46 {a0 a1 : Int} {K : hH → Prop} (k0 : ∀ r, K (r) → x = (none, r)) {r : hH} (hr : fX12_stores_b46 h a0 a1 = some r) (hk : K r) : Wq p l e R s m args below meth c D G A H0 true n0 M_X12_stores x 0 0 46 [(0, (22, a0)), (1, (50, a1))] [] h := by
  unfold fX12_stores_b46 at hr
  refine r_iconst dX12_stores_46 (by decide) ?_
  refine r_istore_n dX12_stores_47 rfl (Or.inl rfl) (by decide) (lv' := [(2, (0, 0)), (0, (22, a0)), (1, (50, a1))]) rfl ?_
  refine r_sub [1, 2, 0] (lv' := [(0, (22, a0)), (1, (50, a1)), (2, (0, 0))]) rfl ?_
  exact lp_ok (w := fun (q : hH × Int) => Wq p l e R s m args below meth c D G A H0 true n0 M_X12_stores x 0 0 48 [(0, (22, a0)), (1, (50, a1)), (2, (0, q.2))] [] (q.1)) (K := K) (fun ⟨q0, q1⟩ r h1 h2 => oX12_stores_s48 (K := Sum.elim (fun (q : hH × Int) => Wq p l e R s m args below meth c D G A H0 true n0 M_X12_stores x 0 0 48 [(0, (22, a0)), (1, (50, a1)), (2, (0, q.2))] [] (q.1)) (K)) (fun r z => k0 r z) (fun _ _ z => z) h1 h2) hr hk
set_option maxRecDepth 100000 in
set_option maxHeartbeats 4000000 in
theorem oX12_stores_s11 {h0 : hH} {a0 a1 l2 : Int} {K : (hH × Int) ⊕ (hH) → Prop} (k0 : ∀ r, K (.inr (r)) → x = (none, r)) (k1 : ∀ (h : hH) (l2 : Int), K (.inl (h, l2)) → Wq p l e R s m args below meth c D G A H0 true n0 M_X12_stores x 0 0 11 [(0, (22, a0)), (1, (50, a1)), (2, (0, l2))] [] h) {r : (hH × Int) ⊕ (hH)} (hr : fX12_stores_s11 h0 a0 a1 (h, l2) = some r) (hk : K r) : Wq p l e R s m args below meth c D G A H0 true n0 M_X12_stores x 0 0 11 [(0, (22, a0)), (1, (50, a1)), (2, (0, l2))] [] h := by
  unfold fX12_stores_s11 at hr
  refine r_iload_n dX12_stores_11 rfl 2 rfl (Or.inl rfl) ?_
  refine r_sipush dX12_stores_12 (by decide) (by decide) ?_
  refine r_icmp_ge dX12_stores_15 (tgt := 40) (by decide) (fun hc => ?_) (fun hc => ?_)
  · have hr := ifn hr hc
    refine r_aload_n dX12_stores_40 rfl 0 rfl (nl rfl) ?_
    refine r_bipush dX12_stores_41 (by decide) (by decide) ?_
    obtain ⟨h43, hg43, hr⟩ := bnd hr
    refine r_put' 12 44 (t := 0) (ref := "FollowingRefsModel") hg43 rfl tyX12 tyX12_ok nmX12 rfl (by decide) rfl (by decide) inlX12 (wsl_23 _ (List.mem_of_getElem? (i := 16) rfl)) rfl rfl (by decide +kernel) (by decide) rfl (Or.inl ⟨rfl, rfl⟩) dX12_stores_43 ?_
    refine r_sub [0, 1] (lv' := [(0, (22, a0)), (1, (50, a1))]) rfl ?_
    obtain ⟨r9, hr9, rfl⟩ := mpp hr
    exact oX12_stores_b46 (K := fun z9 => K (.inr (z9))) (fun r z => k0 r z) hr9 hk
  · have hr := ifp hr hc
    refine r_aload_n dX12_stores_18 rfl 0 rfl (nl rfl) ?_
    refine r_get 12 43 (o := a0) (w := (50, h a0 43)) (T := TX12) (ref := "FollowingRefsModel") rfl (by decide) rfl (by decide) inlX12 (wsl_8 _ (List.mem_of_getElem? (i := 2) rfl)) rfl dX12_stores_19 rfl ?_
    refine r_iload_n dX12_stores_22 rfl 2 rfl (Or.inl rfl) ?_
    refine r_aload_n dX12_stores_23 rfl 0 rfl (nl rfl) ?_
    refine r_get 12 43 (o := a0) (w := (50, h a0 43)) (T := TX12) (ref := "FollowingRefsModel") rfl (by decide) rfl (by decide) inlX12 (wsl_8 _ (List.mem_of_getElem? (i := 2) rfl)) rfl dX12_stores_24 rfl ?_
    refine r_iload_n dX12_stores_27 rfl 2 rfl (Or.inl rfl) ?_
    refine r_sipush dX12_stores_28 (by decide) (by decide) ?_
    refine r_iadd dX12_stores_31 ?_
    obtain ⟨v32, hg32, hr⟩ := bnd hr
    refine r_iald dX12_stores_32 hg32 ?_
    obtain ⟨h33, hg33, hr⟩ := bnd hr
    refine r_iast dX12_stores_33 hg33 ?_
    refine r_iinc (k := 2) (v := l2) dX12_stores_34 rfl (by decide) (lv' := [(2, (0, w32 (l2 + 1))), (0, (22, a0)), (1, (50, a1))]) rfl ?_
    refine r_goto dX12_stores_37 (tgt := 11) (by decide) ?_
    refine r_sub [1, 2, 0] (lv' := [(0, (22, a0)), (1, (50, a1)), (2, (0, w32 (l2 + 1)))]) rfl ?_
    obtain rfl := Option.some.inj hr
    exact k1 _ _ hk
set_option maxRecDepth 100000 in
set_option maxHeartbeats 4000000 in
theorem oX12_stores_b0 {a0 a1 : Int} {K : hH → Prop} (k0 : ∀ r, K (r) → x = (none, r)) {r : hH} (hr : fX12_stores h a0 a1 = some r) (hk : K r) : Wq p l e R s m args below meth c D G A H0 true n0 M_X12_stores x 0 0 0 [(0, (22, a0)), (1, (50, a1))] [] h := by
  unfold fX12_stores at hr
  refine r_aload_n dX12_stores_0 rfl 0 rfl (nl rfl) ?_
  refine r_get 12 44 (o := a0) (w := (0, h a0 44)) (T := TX12) (ref := "FollowingRefsModel") rfl (by decide) rfl (by decide) inlX12 (wsl_23 _ (List.mem_of_getElem? (i := 16) rfl)) rfl dX12_stores_1 rfl ?_
  refine r_bipush dX12_stores_4 (by decide) (by decide) ?_
  refine r_icmp_ne dX12_stores_6 (tgt := 46) (by decide) (fun hc => ?_) (fun hc => ?_)
  · have hr := ifn hr hc
    exact oX12_stores_b46 (K := K) (fun r z => k0 r z) hr hk
  · have hr := ifp hr hc
    refine r_iconst dX12_stores_9 (by decide) ?_
    refine r_istore_n dX12_stores_10 rfl (Or.inl rfl) (by decide) (lv' := [(2, (0, 0)), (0, (22, a0)), (1, (50, a1))]) rfl ?_
    refine r_sub [1, 2, 0] (lv' := [(0, (22, a0)), (1, (50, a1)), (2, (0, 0))]) rfl ?_
    exact lp_ok (w := fun (q : hH × Int) => Wq p l e R s m args below meth c D G A H0 true n0 M_X12_stores x 0 0 11 [(0, (22, a0)), (1, (50, a1)), (2, (0, q.2))] [] (q.1)) (K := K) (fun ⟨q0, q1⟩ r h1 h2 => oX12_stores_s11 (K := Sum.elim (fun (q : hH × Int) => Wq p l e R s m args below meth c D G A H0 true n0 M_X12_stores x 0 0 11 [(0, (22, a0)), (1, (50, a1)), (2, (0, q.2))] [] (q.1)) (K)) (fun r z => k0 r z) (fun _ _ z => z) h1 h2) hr hk
end M_X12_stores
theorem oX12_stores {l : Launch} {D : va_G} {G : gG} {h : hH} {a0 a1 : Int} {r : hH} (hr : fX12_stores h a0 a1 = some r) : Ctr l D G true yX12_stores M_X12_stores [(22, a0), (50, a1)] h (none, r) :=
  Ctr_of (by decide) rfl (fun z => by cases z) (nl rfl) (fun {p e R s m args below meth c A H0} => by
    exact oX12_stores_b0 (K := fun z9 => z9 = r) (fun r9 z => by rw [z]) hr rfl)
/-! X12_statement -/
theorem dX12_statement_0 : decode cX12_statement 0 = .ok (.aload_n 0, 1) := by decide +kernel
theorem dX12_statement_1 : decode cX12_statement 1 = .ok (.invokevirtual 439, 3) := by decide +kernel
theorem dX12_statement_4 : decode cX12_statement 4 = .ok (.ifCond .ne 11, 3) := by decide +kernel
theorem dX12_statement_7 : decode cX12_statement 7 = .ok (.bipush (-2), 2) := by decide +kernel
theorem dX12_statement_9 : decode cX12_statement 9 = .ok (.aload_n 0, 1) := by decide +kernel
theorem dX12_statement_10 : decode cX12_statement 10 = .ok (.getfield 217, 3) := by decide +kernel
theorem dX12_statement_13 : decode cX12_statement 13 = .ok (.isub, 1) := by decide +kernel
theorem dX12_statement_14 : decode cX12_statement 14 = .ok (.ireturn, 1) := by decide +kernel
theorem dX12_statement_15 : decode cX12_statement 15 = .ok (.aload_n 0, 1) := by decide +kernel
theorem dX12_statement_16 : decode cX12_statement 16 = .ok (.iconst 0, 1) := by decide +kernel
theorem dX12_statement_17 : decode cX12_statement 17 = .ok (.invokevirtual 442, 3) := by decide +kernel
theorem dX12_statement_20 : decode cX12_statement 20 = .ok (.istore_n 1, 1) := by decide +kernel
theorem dX12_statement_21 : decode cX12_statement 21 = .ok (.aload_n 0, 1) := by decide +kernel
theorem dX12_statement_22 : decode cX12_statement 22 = .ok (.iload_n 1, 1) := by decide +kernel
theorem dX12_statement_23 : decode cX12_statement 23 = .ok (.invokevirtual 446, 3) := by decide +kernel
theorem dX12_statement_26 : decode cX12_statement 26 = .ok (.iload_n 1, 1) := by decide +kernel
theorem dX12_statement_27 : decode cX12_statement 27 = .ok (.ifCond .le 9, 3) := by decide +kernel
theorem dX12_statement_30 : decode cX12_statement 30 = .ok (.sipush (-1000), 3) := by decide +kernel
theorem dX12_statement_33 : decode cX12_statement 33 = .ok (.iload_n 1, 1) := by decide +kernel
theorem dX12_statement_34 : decode cX12_statement 34 = .ok (.isub, 1) := by decide +kernel
theorem dX12_statement_35 : decode cX12_statement 35 = .ok (.ireturn, 1) := by decide +kernel
theorem dX12_statement_36 : decode cX12_statement 36 = .ok (.aload_n 0, 1) := by decide +kernel
theorem dX12_statement_37 : decode cX12_statement 37 = .ok (.aload_n 0, 1) := by decide +kernel
theorem dX12_statement_38 : decode cX12_statement 38 = .ok (.getfield 71, 3) := by decide +kernel
theorem dX12_statement_41 : decode cX12_statement 41 = .ok (.invokevirtual 449, 3) := by decide +kernel
theorem dX12_statement_44 : decode cX12_statement 44 = .ok (.aload_n 0, 1) := by decide +kernel
theorem dX12_statement_45 : decode cX12_statement 45 = .ok (.iconst 0, 1) := by decide +kernel
theorem dX12_statement_46 : decode cX12_statement 46 = .ok (.invokevirtual 453, 3) := by decide +kernel
theorem dX12_statement_49 : decode cX12_statement 49 = .ok (.ireturn, 1) := by decide +kernel
abbrev M_X12_statement : mM := (cX12_statement, 2, RX12, some .int, false, 8, 173, 0, 0)
theorem gX12_statement : cI yX12_statement M_X12_statement 0 := ⟨(wsl_40 _ (List.mem_of_getElem? (i := 8) rfl)), (wsl_40 _ (List.mem_of_getElem? (i := 9) rfl)), (wsl_1 _ (List.mem_of_getElem? (i := 5) rfl)), (wsl_40 _ (List.mem_of_getElem? (i := 10) rfl)), by decide +kernel⟩
noncomputable def fX12_statement (h : hH) (a0 : Int) : Option (Int × hH) :=
  (fX12_readsOne h a0).bind fun q1 =>
  if q1.1 = 0 then
    some (w32 ((-2) - (q1.2 a0 17)), q1.2)
  else
    (fX12_judges q1.2 a0 0).bind fun q17 =>
    (fX12_tells q17.2 a0 q17.1).bind fun h23 =>
    if 0 < q17.1 then
      some (w32 ((-1000) - q17.1), h23)
    else
      (fX12_stores h23 a0 (h23 a0 30)).bind fun h41 =>
      (fX12_touched h41 a0 0).bind fun r46 =>
      some (r46, h41)
section M_X12_statement
variable {p : Program} {l : Launch} {e : Env} {R : Room} {s : State} {m : MethodId} {args : Array Value} {below : List Frame} {meth : Method} {c : Code} {D : va_G} {G : gG} {A : Nat → Prop} {H0 : Heap} {n0 : Int} {x : Option vV × hH} {h : hH}
set_option maxRecDepth 100000 in
set_option maxHeartbeats 4000000 in
theorem oX12_statement_b0 {a0 : Int} {K : Int × hH → Prop} (k0 : ∀ r, K (r) → x = (some (0, r.1), r.2)) {r : Int × hH} (hr : fX12_statement h a0 = some r) (hk : K r) : Wq p l e R s m args below meth c D G A H0 true n0 M_X12_statement x 0 0 0 [(0, (22, a0))] [] h := by
  unfold fX12_statement at hr
  refine r_aload_n dX12_statement_0 rfl 0 rfl (nl rfl) ?_
  obtain ⟨q1, hg1, hr⟩ := bnd hr
  refine k_V (ci := 12) (o := a0) (T := TX12) (as := []) (rest := []) (X := (some (2, q1.1), q1.2)) (oX12_readsOne hg1) gX12_readsOne rfl (by decide) rfl (wsl_40 _ (List.mem_of_getElem? (i := 11) rfl)) rfl dX12_statement_1 rfl ?_
  refine r_scast 0 (v := (2, q1.1)) (w := (0, q1.1)) rfl zc hTz (st' := [(0, q1.1)]) rfl ?_
  refine r_if_ne dX12_statement_4 (tgt := 15) (by decide) (fun hc => ?_) (fun hc => ?_)
  · have hr := ifn hr hc
    refine r_aload_n dX12_statement_15 rfl 0 rfl (nl rfl) ?_
    refine r_iconst dX12_statement_16 (by decide) ?_
    obtain ⟨q17, hg17, hr⟩ := bnd hr
    refine k_V (ci := 12) (o := a0) (T := TX12) (as := [(0, 0)]) (rest := []) (X := (some (0, q17.1), q17.2)) (oX12_judges hg17) gX12_judges rfl (by decide) rfl (wsl_41 _ (List.mem_of_getElem? (i := 23) rfl)) rfl dX12_statement_17 rfl ?_
    refine r_istore_n dX12_statement_20 rfl (Or.inl rfl) (by decide) (lv' := [(1, (0, q17.1)), (0, (22, a0))]) rfl ?_
    refine r_aload_n dX12_statement_21 rfl 1 rfl (nl rfl) ?_
    refine r_iload_n dX12_statement_22 rfl 0 rfl (Or.inl rfl) ?_
    obtain ⟨h23, hg23, hr⟩ := bnd hr
    refine k_V (ci := 12) (o := a0) (T := TX12) (as := [(0, q17.1)]) (rest := []) (X := (none, h23)) (oX12_tells hg23) gX12_tells rfl (by decide) rfl (wsl_46 _ (List.mem_of_getElem? (i := 8) rfl)) rfl dX12_statement_23 rfl ?_
    refine r_iload_n dX12_statement_26 rfl 0 rfl (Or.inl rfl) ?_
    refine r_if_le dX12_statement_27 (tgt := 36) (by decide) (fun hc => ?_) (fun hc => ?_)
    · have hr := ifn hr hc
      refine r_aload_n dX12_statement_36 rfl 1 rfl (nl rfl) ?_
      refine r_aload_n dX12_statement_37 rfl 1 rfl (nl rfl) ?_
      refine r_get 12 30 (o := a0) (w := (50, h23 a0 30)) (T := TX12) (ref := "FollowingRefsModel") rfl (by decide) rfl (by decide) inlX12 (wsl_7 _ (List.mem_of_getElem? (i := 20) rfl)) rfl dX12_statement_38 rfl ?_
      obtain ⟨h41, hg41, hr⟩ := bnd hr
      refine k_V (ci := 12) (o := a0) (T := TX12) (as := [(50, h23 a0 30)]) (rest := []) (X := (none, h41)) (oX12_stores hg41) gX12_stores rfl (by decide) rfl (wsl_46 _ (List.mem_of_getElem? (i := 18) rfl)) rfl dX12_statement_41 rfl ?_
      refine r_aload_n dX12_statement_44 rfl 1 rfl (nl rfl) ?_
      refine r_iconst dX12_statement_45 (by decide) ?_
      obtain ⟨r46, hg46, hr⟩ := bnd hr
      refine k_V (ci := 12) (o := a0) (T := TX12) (as := [(0, 0)]) (rest := []) (X := (some (0, r46), h41)) (oX12_touched hg46) gX12_touched rfl (by decide) rfl (wsl_46 _ (List.mem_of_getElem? (i := 22) rfl)) rfl dX12_statement_46 rfl ?_
      obtain rfl := Option.some.inj hr
      exact r_ret dX12_statement_49 rfl (Or.inl ⟨rfl, rfl⟩) (k0 _ hk) ⟨rfl, rfl⟩
    · have hr := ifp hr hc
      refine r_sipush dX12_statement_30 (by decide) (by decide) ?_
      refine r_iload_n dX12_statement_33 rfl 0 rfl (Or.inl rfl) ?_
      refine r_isub dX12_statement_34 ?_
      obtain rfl := Option.some.inj hr
      exact r_ret dX12_statement_35 rfl (Or.inl ⟨rfl, rfl⟩) (k0 _ hk) ⟨rfl, rfl⟩
  · have hr := ifp hr hc
    refine r_bipush dX12_statement_7 (by decide) (by decide) ?_
    refine r_aload_n dX12_statement_9 rfl 0 rfl (nl rfl) ?_
    refine r_get 12 17 (o := a0) (w := (0, q1.2 a0 17)) (T := TX12) (ref := "FollowingRefsModel") rfl (by decide) rfl (by decide) inlX12 (wsl_23 _ (List.mem_of_getElem? (i := 15) rfl)) rfl dX12_statement_10 rfl ?_
    refine r_isub dX12_statement_13 ?_
    obtain rfl := Option.some.inj hr
    exact r_ret dX12_statement_14 rfl (Or.inl ⟨rfl, rfl⟩) (k0 _ hk) ⟨rfl, rfl⟩
end M_X12_statement
theorem oX12_statement {l : Launch} {D : va_G} {G : gG} {h : hH} {a0 : Int} {r : Int × hH} (hr : fX12_statement h a0 = some r) : Ctr l D G true yX12_statement M_X12_statement [(22, a0)] h (some (0, r.1), r.2) :=
  Ctr_of (by decide) rfl (fun z => by cases z) (nl rfl) (fun {p e R s m args below meth c A H0} => by
    exact oX12_statement_b0 (K := fun z9 => z9 = r) (fun r9 z => by rw [z]) hr rfl)
/-! X12_would -/
theorem dX12_would_0 : decode cX12_would 0 = .ok (.aload_n 0, 1) := by decide +kernel
theorem dX12_would_1 : decode cX12_would 1 = .ok (.invokevirtual 439, 3) := by decide +kernel
theorem dX12_would_4 : decode cX12_would 4 = .ok (.ifCond .ne 11, 3) := by decide +kernel
theorem dX12_would_7 : decode cX12_would 7 = .ok (.bipush (-2), 2) := by decide +kernel
theorem dX12_would_9 : decode cX12_would 9 = .ok (.aload_n 0, 1) := by decide +kernel
theorem dX12_would_10 : decode cX12_would 10 = .ok (.getfield 217, 3) := by decide +kernel
theorem dX12_would_13 : decode cX12_would 13 = .ok (.isub, 1) := by decide +kernel
theorem dX12_would_14 : decode cX12_would 14 = .ok (.ireturn, 1) := by decide +kernel
theorem dX12_would_15 : decode cX12_would 15 = .ok (.aload_n 0, 1) := by decide +kernel
theorem dX12_would_16 : decode cX12_would 16 = .ok (.iconst 0, 1) := by decide +kernel
theorem dX12_would_17 : decode cX12_would 17 = .ok (.invokevirtual 442, 3) := by decide +kernel
theorem dX12_would_20 : decode cX12_would 20 = .ok (.istore_n 1, 1) := by decide +kernel
theorem dX12_would_21 : decode cX12_would 21 = .ok (.aload_n 0, 1) := by decide +kernel
theorem dX12_would_22 : decode cX12_would 22 = .ok (.iload_n 1, 1) := by decide +kernel
theorem dX12_would_23 : decode cX12_would 23 = .ok (.invokevirtual 446, 3) := by decide +kernel
theorem dX12_would_26 : decode cX12_would 26 = .ok (.iload_n 1, 1) := by decide +kernel
theorem dX12_would_27 : decode cX12_would 27 = .ok (.ifCond .le 9, 3) := by decide +kernel
theorem dX12_would_30 : decode cX12_would 30 = .ok (.sipush (-1000), 3) := by decide +kernel
theorem dX12_would_33 : decode cX12_would 33 = .ok (.iload_n 1, 1) := by decide +kernel
theorem dX12_would_34 : decode cX12_would 34 = .ok (.isub, 1) := by decide +kernel
theorem dX12_would_35 : decode cX12_would 35 = .ok (.ireturn, 1) := by decide +kernel
theorem dX12_would_36 : decode cX12_would 36 = .ok (.iconst 0, 1) := by decide +kernel
theorem dX12_would_37 : decode cX12_would 37 = .ok (.istore_n 2, 1) := by decide +kernel
theorem dX12_would_38 : decode cX12_would 38 = .ok (.iload_n 2, 1) := by decide +kernel
theorem dX12_would_39 : decode cX12_would 39 = .ok (.sipush 1091, 3) := by decide +kernel
theorem dX12_would_42 : decode cX12_would 42 = .ok (.if_icmp .ge 25, 3) := by decide +kernel
theorem dX12_would_45 : decode cX12_would 45 = .ok (.aload_n 0, 1) := by decide +kernel
theorem dX12_would_46 : decode cX12_would 46 = .ok (.getfield 33, 3) := by decide +kernel
theorem dX12_would_49 : decode cX12_would 49 = .ok (.sipush 148, 3) := by decide +kernel
theorem dX12_would_52 : decode cX12_would 52 = .ok (.iload_n 2, 1) := by decide +kernel
theorem dX12_would_53 : decode cX12_would 53 = .ok (.iadd, 1) := by decide +kernel
theorem dX12_would_54 : decode cX12_would 54 = .ok (.aload_n 0, 1) := by decide +kernel
theorem dX12_would_55 : decode cX12_would 55 = .ok (.getfield 71, 3) := by decide +kernel
theorem dX12_would_58 : decode cX12_would 58 = .ok (.iload_n 2, 1) := by decide +kernel
theorem dX12_would_59 : decode cX12_would 59 = .ok (.iaload, 1) := by decide +kernel
theorem dX12_would_60 : decode cX12_would 60 = .ok (.iastore, 1) := by decide +kernel
theorem dX12_would_61 : decode cX12_would 61 = .ok (.iinc 2 1, 3) := by decide +kernel
theorem dX12_would_64 : decode cX12_would 64 = .ok (.goto (-26), 3) := by decide +kernel
theorem dX12_would_67 : decode cX12_would 67 = .ok (.aload_n 0, 1) := by decide +kernel
theorem dX12_would_68 : decode cX12_would 68 = .ok (.iconst 0, 1) := by decide +kernel
theorem dX12_would_69 : decode cX12_would 69 = .ok (.invokevirtual 453, 3) := by decide +kernel
theorem dX12_would_72 : decode cX12_would 72 = .ok (.ireturn, 1) := by decide +kernel
abbrev M_X12_would : mM := (cX12_would, 3, RX12, some .int, false, 8, 173, 0, 0)
theorem gX12_would : cI yX12_would M_X12_would 0 := ⟨(wsl_47 _ (List.mem_of_getElem? (i := 7) rfl)), (wsl_47 _ (List.mem_of_getElem? (i := 8) rfl)), (wsl_1 _ (List.mem_of_getElem? (i := 5) rfl)), (wsl_47 _ (List.mem_of_getElem? (i := 9) rfl)), by decide +kernel⟩
noncomputable def fX12_would_s38 (h0 : hH) (a0 : Int) : hH × Int → Option ((hH × Int) ⊕ (Int × hH)) := fun (h, l2) =>
  if l2 < 1091 then
    (aget h (h a0 30) l2).bind fun v59 =>
    (aput h (h a0 6) (w32 (148 + l2)) v59).bind fun h60 =>
    some (.inl (h60, w32 (l2 + 1)))
  else
    (fX12_touched h a0 0).bind fun r69 =>
    some (.inr ((r69, h)))
noncomputable def fX12_would (h : hH) (a0 : Int) : Option (Int × hH) :=
  (fX12_readsOne h a0).bind fun q1 =>
  if q1.1 = 0 then
    some (w32 ((-2) - (q1.2 a0 17)), q1.2)
  else
    (fX12_judges q1.2 a0 0).bind fun q17 =>
    (fX12_tells q17.2 a0 q17.1).bind fun h23 =>
    if 0 < q17.1 then
      some (w32 ((-1000) - q17.1), h23)
    else
      lpO (fX12_would_s38 h23 a0) (h23, 0)
section M_X12_would
variable {p : Program} {l : Launch} {e : Env} {R : Room} {s : State} {m : MethodId} {args : Array Value} {below : List Frame} {meth : Method} {c : Code} {D : va_G} {G : gG} {A : Nat → Prop} {H0 : Heap} {n0 : Int} {x : Option vV × hH} {h : hH}
set_option maxRecDepth 100000 in
set_option maxHeartbeats 4000000 in
theorem oX12_would_s38 {h0 : hH} {a0 l2 : Int} {K : (hH × Int) ⊕ (Int × hH) → Prop} (k0 : ∀ r, K (.inr (r)) → x = (some (0, r.1), r.2)) (k1 : ∀ (h : hH) (l2 : Int), K (.inl (h, l2)) → Wq p l e R s m args below meth c D G A H0 true n0 M_X12_would x 0 0 38 [(0, (22, a0)), (2, (0, l2))] [] h) {r : (hH × Int) ⊕ (Int × hH)} (hr : fX12_would_s38 h0 a0 (h, l2) = some r) (hk : K r) : Wq p l e R s m args below meth c D G A H0 true n0 M_X12_would x 0 0 38 [(0, (22, a0)), (2, (0, l2))] [] h := by
  unfold fX12_would_s38 at hr
  refine r_iload_n dX12_would_38 rfl 1 rfl (Or.inl rfl) ?_
  refine r_sipush dX12_would_39 (by decide) (by decide) ?_
  refine r_icmp_ge dX12_would_42 (tgt := 67) (by decide) (fun hc => ?_) (fun hc => ?_)
  · have hr := ifn hr hc
    refine r_aload_n dX12_would_67 rfl 0 rfl (nl rfl) ?_
    refine r_iconst dX12_would_68 (by decide) ?_
    obtain ⟨r69, hg69, hr⟩ := bnd hr
    refine k_V (ci := 12) (o := a0) (T := TX12) (as := [(0, 0)]) (rest := []) (X := (some (0, r69), h)) (oX12_touched hg69) gX12_touched rfl (by decide) rfl (wsl_46 _ (List.mem_of_getElem? (i := 22) rfl)) rfl dX12_would_69 rfl ?_
    obtain rfl := Option.some.inj hr
    exact r_ret dX12_would_72 rfl (Or.inl ⟨rfl, rfl⟩) (k0 _ hk) ⟨rfl, rfl⟩
  · have hr := ifp hr hc
    refine r_aload_n dX12_would_45 rfl 0 rfl (nl rfl) ?_
    refine r_get 12 6 (o := a0) (w := (50, h a0 6)) (T := TX12) (ref := "FollowingRefsModel") rfl (by decide) rfl (by decide) inlX12 (wsl_7 _ (List.mem_of_getElem? (i := 8) rfl)) rfl dX12_would_46 rfl ?_
    refine r_sipush dX12_would_49 (by decide) (by decide) ?_
    refine r_iload_n dX12_would_52 rfl 1 rfl (Or.inl rfl) ?_
    refine r_iadd dX12_would_53 ?_
    refine r_aload_n dX12_would_54 rfl 0 rfl (nl rfl) ?_
    refine r_get 12 30 (o := a0) (w := (50, h a0 30)) (T := TX12) (ref := "FollowingRefsModel") rfl (by decide) rfl (by decide) inlX12 (wsl_7 _ (List.mem_of_getElem? (i := 20) rfl)) rfl dX12_would_55 rfl ?_
    refine r_iload_n dX12_would_58 rfl 1 rfl (Or.inl rfl) ?_
    obtain ⟨v59, hg59, hr⟩ := bnd hr
    refine r_iald dX12_would_59 hg59 ?_
    obtain ⟨h60, hg60, hr⟩ := bnd hr
    refine r_iast dX12_would_60 hg60 ?_
    refine r_iinc (k := 1) (v := l2) dX12_would_61 rfl (by decide) (lv' := [(2, (0, w32 (l2 + 1))), (0, (22, a0))]) rfl ?_
    refine r_goto dX12_would_64 (tgt := 38) (by decide) ?_
    refine r_sub [1, 0] (lv' := [(0, (22, a0)), (2, (0, w32 (l2 + 1)))]) rfl ?_
    obtain rfl := Option.some.inj hr
    exact k1 _ _ hk
set_option maxRecDepth 100000 in
set_option maxHeartbeats 4000000 in
theorem oX12_would_b0 {a0 : Int} {K : Int × hH → Prop} (k0 : ∀ r, K (r) → x = (some (0, r.1), r.2)) {r : Int × hH} (hr : fX12_would h a0 = some r) (hk : K r) : Wq p l e R s m args below meth c D G A H0 true n0 M_X12_would x 0 0 0 [(0, (22, a0))] [] h := by
  unfold fX12_would at hr
  refine r_aload_n dX12_would_0 rfl 0 rfl (nl rfl) ?_
  obtain ⟨q1, hg1, hr⟩ := bnd hr
  refine k_V (ci := 12) (o := a0) (T := TX12) (as := []) (rest := []) (X := (some (2, q1.1), q1.2)) (oX12_readsOne hg1) gX12_readsOne rfl (by decide) rfl (wsl_40 _ (List.mem_of_getElem? (i := 11) rfl)) rfl dX12_would_1 rfl ?_
  refine r_scast 0 (v := (2, q1.1)) (w := (0, q1.1)) rfl zc hTz (st' := [(0, q1.1)]) rfl ?_
  refine r_if_ne dX12_would_4 (tgt := 15) (by decide) (fun hc => ?_) (fun hc => ?_)
  · have hr := ifn hr hc
    refine r_aload_n dX12_would_15 rfl 0 rfl (nl rfl) ?_
    refine r_iconst dX12_would_16 (by decide) ?_
    obtain ⟨q17, hg17, hr⟩ := bnd hr
    refine k_V (ci := 12) (o := a0) (T := TX12) (as := [(0, 0)]) (rest := []) (X := (some (0, q17.1), q17.2)) (oX12_judges hg17) gX12_judges rfl (by decide) rfl (wsl_41 _ (List.mem_of_getElem? (i := 23) rfl)) rfl dX12_would_17 rfl ?_
    refine r_istore_n dX12_would_20 rfl (Or.inl rfl) (by decide) (lv' := [(1, (0, q17.1)), (0, (22, a0))]) rfl ?_
    refine r_aload_n dX12_would_21 rfl 1 rfl (nl rfl) ?_
    refine r_iload_n dX12_would_22 rfl 0 rfl (Or.inl rfl) ?_
    obtain ⟨h23, hg23, hr⟩ := bnd hr
    refine k_V (ci := 12) (o := a0) (T := TX12) (as := [(0, q17.1)]) (rest := []) (X := (none, h23)) (oX12_tells hg23) gX12_tells rfl (by decide) rfl (wsl_46 _ (List.mem_of_getElem? (i := 8) rfl)) rfl dX12_would_23 rfl ?_
    refine r_iload_n dX12_would_26 rfl 0 rfl (Or.inl rfl) ?_
    refine r_if_le dX12_would_27 (tgt := 36) (by decide) (fun hc => ?_) (fun hc => ?_)
    · have hr := ifn hr hc
      refine r_iconst dX12_would_36 (by decide) ?_
      refine r_istore_n dX12_would_37 rfl (Or.inl rfl) (by decide) (lv' := [(2, (0, 0)), (1, (0, q17.1)), (0, (22, a0))]) rfl ?_
      refine r_sub [2, 0] (lv' := [(0, (22, a0)), (2, (0, 0))]) rfl ?_
      exact lp_ok (w := fun (q : hH × Int) => Wq p l e R s m args below meth c D G A H0 true n0 M_X12_would x 0 0 38 [(0, (22, a0)), (2, (0, q.2))] [] (q.1)) (K := K) (fun ⟨q0, q1⟩ r h1 h2 => oX12_would_s38 (K := Sum.elim (fun (q : hH × Int) => Wq p l e R s m args below meth c D G A H0 true n0 M_X12_would x 0 0 38 [(0, (22, a0)), (2, (0, q.2))] [] (q.1)) (K)) (fun r z => k0 r z) (fun _ _ z => z) h1 h2) hr hk
    · have hr := ifp hr hc
      refine r_sipush dX12_would_30 (by decide) (by decide) ?_
      refine r_iload_n dX12_would_33 rfl 0 rfl (Or.inl rfl) ?_
      refine r_isub dX12_would_34 ?_
      obtain rfl := Option.some.inj hr
      exact r_ret dX12_would_35 rfl (Or.inl ⟨rfl, rfl⟩) (k0 _ hk) ⟨rfl, rfl⟩
  · have hr := ifp hr hc
    refine r_bipush dX12_would_7 (by decide) (by decide) ?_
    refine r_aload_n dX12_would_9 rfl 0 rfl (nl rfl) ?_
    refine r_get 12 17 (o := a0) (w := (0, q1.2 a0 17)) (T := TX12) (ref := "FollowingRefsModel") rfl (by decide) rfl (by decide) inlX12 (wsl_23 _ (List.mem_of_getElem? (i := 15) rfl)) rfl dX12_would_10 rfl ?_
    refine r_isub dX12_would_13 ?_
    obtain rfl := Option.some.inj hr
    exact r_ret dX12_would_14 rfl (Or.inl ⟨rfl, rfl⟩) (k0 _ hk) ⟨rfl, rfl⟩
end M_X12_would
theorem oX12_would {l : Launch} {D : va_G} {G : gG} {h : hH} {a0 : Int} {r : Int × hH} (hr : fX12_would h a0 = some r) : Ctr l D G true yX12_would M_X12_would [(22, a0)] h (some (0, r.1), r.2) :=
  Ctr_of (by decide) rfl (fun z => by cases z) (nl rfl) (fun {p e R s m args below meth c A H0} => by
    exact oX12_would_b0 (K := fun z9 => z9 = r) (fun r9 z => by rw [z]) hr rfl)
/-! X12_judged -/
theorem dX12_judged_0 : decode cX12_judged 0 = .ok (.aload_n 0, 1) := by decide +kernel
theorem dX12_judged_1 : decode cX12_judged 1 = .ok (.iconst 0, 1) := by decide +kernel
theorem dX12_judged_2 : decode cX12_judged 2 = .ok (.putfield 1, 3) := by decide +kernel
theorem dX12_judged_5 : decode cX12_judged 5 = .ok (.aload_n 0, 1) := by decide +kernel
theorem dX12_judged_6 : decode cX12_judged 6 = .ok (.getfield 456, 3) := by decide +kernel
theorem dX12_judged_9 : decode cX12_judged 9 = .ok (.ifCond .eq 21, 3) := by decide +kernel
theorem dX12_judged_12 : decode cX12_judged 12 = .ok (.iload_n 1, 1) := by decide +kernel
theorem dX12_judged_13 : decode cX12_judged 13 = .ok (.iconst 0, 1) := by decide +kernel
theorem dX12_judged_14 : decode cX12_judged 14 = .ok (.iconst 3, 1) := by decide +kernel
theorem dX12_judged_15 : decode cX12_judged 15 = .ok (.invokestatic 229, 3) := by decide +kernel
theorem dX12_judged_18 : decode cX12_judged 18 = .ok (.ifCond .eq 12, 3) := by decide +kernel
theorem dX12_judged_21 : decode cX12_judged 21 = .ok (.aload_n 0, 1) := by decide +kernel
theorem dX12_judged_22 : decode cX12_judged 22 = .ok (.getfield 74, 3) := by decide +kernel
theorem dX12_judged_25 : decode cX12_judged 25 = .ok (.iload_n 1, 1) := by decide +kernel
theorem dX12_judged_26 : decode cX12_judged 26 = .ok (.iaload, 1) := by decide +kernel
theorem dX12_judged_27 : decode cX12_judged 27 = .ok (.goto 4, 3) := by decide +kernel
theorem dX12_judged_30 : decode cX12_judged 30 = .ok (.iconst (-1), 1) := by decide +kernel
theorem dX12_judged_31 : decode cX12_judged 31 = .ok (.ireturn, 1) := by decide +kernel
abbrev M_X12_judged : mM := (cX12_judged, 2, RX12, some .int, false, 1, 22, 0, 0)
theorem gX12_judged : cI yX12_judged M_X12_judged 1 := ⟨(wsl_47 _ (List.mem_of_getElem? (i := 20) rfl)), (wsl_47 _ (List.mem_of_getElem? (i := 21) rfl)), (wsl_1 _ (List.mem_of_getElem? (i := 5) rfl)), (wsl_47 _ (List.mem_of_getElem? (i := 22) rfl)), by decide +kernel⟩
noncomputable def fX12_judged (h : hH) (a0 a1 : Int) : Option (Int × hH) :=
  (pput h a0 0 0).bind fun h2 =>
  if h2 a0 42 = 0 then
    some (-1, h2)
  else
    (fX12_isIn h2 a1 0 3).bind fun r15 =>
    if r15 = 0 then
      some (-1, h2)
    else
      (aget h2 (h2 a0 36) a1).bind fun v26 =>
      some (v26, h2)
section M_X12_judged
variable {p : Program} {l : Launch} {e : Env} {R : Room} {s : State} {m : MethodId} {args : Array Value} {below : List Frame} {meth : Method} {c : Code} {D : va_G} {G : gG} {A : Nat → Prop} {H0 : Heap} {n0 : Int} {x : Option vV × hH} {h : hH}
set_option maxRecDepth 100000 in
set_option maxHeartbeats 4000000 in
theorem oX12_judged_b0 {a0 a1 : Int} {K : Int × hH → Prop} (k0 : ∀ r, K (r) → x = (some (0, r.1), r.2)) {r : Int × hH} (hr : fX12_judged h a0 a1 = some r) (hk : K r) : Wq p l e R s m args below meth c D G A H0 true n0 M_X12_judged x 0 0 0 [(0, (22, a0)), (1, (0, a1))] [] h := by
  unfold fX12_judged at hr
  refine r_aload_n dX12_judged_0 rfl 0 rfl (nl rfl) ?_
  refine r_iconst dX12_judged_1 (by decide) ?_
  obtain ⟨h2, hg2, hr⟩ := bnd hr
  refine r_put' 12 0 (t := 0) (ref := "FollowingRefsModel") hg2 rfl tyX12 tyX12_ok nmX12 rfl (by decide) rfl (by decide) inlX12 (wsl_10 _ (List.mem_of_getElem? (i := 11) rfl)) rfl rfl (by decide +kernel) (by decide) rfl (Or.inl ⟨rfl, rfl⟩) dX12_judged_2 ?_
  refine r_aload_n dX12_judged_5 rfl 0 rfl (nl rfl) ?_
  refine r_get 12 42 (o := a0) (w := (2, h2 a0 42)) (T := TX12) (ref := "FollowingRefsModel") rfl (by decide) rfl (by decide) inlX12 (wsl_46 _ (List.mem_of_getElem? (i := 12) rfl)) rfl dX12_judged_6 rfl ?_
  refine r_scast 0 (v := (2, h2 a0 42)) (w := (0, h2 a0 42)) rfl zc hTz (st' := [(0, h2 a0 42)]) rfl ?_
  refine r_if_eq dX12_judged_9 (tgt := 30) (by decide) (fun hc => ?_) (fun hc => ?_)
  · have hr := ifp hr hc
    refine r_iconst dX12_judged_30 (by decide) ?_
    obtain rfl := Option.some.inj hr
    exact r_ret dX12_judged_31 rfl (Or.inl ⟨rfl, rfl⟩) (k0 _ hk) ⟨rfl, rfl⟩
  · have hr := ifn hr hc
    refine r_iload_n dX12_judged_12 rfl 1 rfl (Or.inl rfl) ?_
    refine r_iconst dX12_judged_13 (by decide) ?_
    refine r_iconst dX12_judged_14 (by decide) ?_
    obtain ⟨r15, hg15, hr⟩ := bnd hr
    refine k_S (as := [(0, a1), (0, 0), (0, 3)]) (rest := []) (X := (some (2, r15), h2)) (oX12_isIn hg15) gX12_isIn rfl (wsl_28 _ (List.mem_of_getElem? (i := 1) rfl)) rfl dX12_judged_15 rfl ?_
    refine r_scast 0 (v := (2, r15)) (w := (0, r15)) rfl zc hTz (st' := [(0, r15)]) rfl ?_
    refine r_if_eq dX12_judged_18 (tgt := 30) (by decide) (fun hc => ?_) (fun hc => ?_)
    · have hr := ifp hr hc
      refine r_iconst dX12_judged_30 (by decide) ?_
      obtain rfl := Option.some.inj hr
      exact r_ret dX12_judged_31 rfl (Or.inl ⟨rfl, rfl⟩) (k0 _ hk) ⟨rfl, rfl⟩
    · have hr := ifn hr hc
      refine r_aload_n dX12_judged_21 rfl 0 rfl (nl rfl) ?_
      refine r_get 12 36 (o := a0) (w := (50, h2 a0 36)) (T := TX12) (ref := "FollowingRefsModel") rfl (by decide) rfl (by decide) inlX12 (wsl_7 _ (List.mem_of_getElem? (i := 21) rfl)) rfl dX12_judged_22 rfl ?_
      refine r_iload_n dX12_judged_25 rfl 1 rfl (Or.inl rfl) ?_
      obtain ⟨v26, hg26, hr⟩ := bnd hr
      refine r_iald dX12_judged_26 hg26 ?_
      refine r_goto dX12_judged_27 (tgt := 31) (by decide) ?_
      obtain rfl := Option.some.inj hr
      exact r_ret dX12_judged_31 rfl (Or.inl ⟨rfl, rfl⟩) (k0 _ hk) ⟨rfl, rfl⟩
end M_X12_judged
theorem oX12_judged {l : Launch} {D : va_G} {G : gG} {h : hH} {a0 a1 : Int} {r : Int × hH} (hr : fX12_judged h a0 a1 = some r) : Ctr l D G true yX12_judged M_X12_judged [(22, a0), (0, a1)] h (some (0, r.1), r.2) :=
  Ctr_of (by decide) rfl (fun z => by cases z) (nl rfl) (fun {p e R s m args below meth c A H0} => by
    exact oX12_judged_b0 (K := fun z9 => z9 = r) (fun r9 z => by rw [z]) hr rfl)
/-! X12_goes -/
theorem dX12_goes_0 : decode cX12_goes 0 = .ok (.aload_n 0, 1) := by decide +kernel
theorem dX12_goes_1 : decode cX12_goes 1 = .ok (.iconst 0, 1) := by decide +kernel
theorem dX12_goes_2 : decode cX12_goes 2 = .ok (.putfield 1, 3) := by decide +kernel
theorem dX12_goes_5 : decode cX12_goes 5 = .ok (.iconst 0, 1) := by decide +kernel
theorem dX12_goes_6 : decode cX12_goes 6 = .ok (.istore_n 2, 1) := by decide +kernel
theorem dX12_goes_7 : decode cX12_goes 7 = .ok (.iconst 0, 1) := by decide +kernel
theorem dX12_goes_8 : decode cX12_goes 8 = .ok (.istore_n 3, 1) := by decide +kernel
theorem dX12_goes_9 : decode cX12_goes 9 = .ok (.iload_n 3, 1) := by decide +kernel
theorem dX12_goes_10 : decode cX12_goes 10 = .ok (.bipush 99, 2) := by decide +kernel
theorem dX12_goes_12 : decode cX12_goes 12 = .ok (.if_icmp .ge 38, 3) := by decide +kernel
theorem dX12_goes_15 : decode cX12_goes 15 = .ok (.aload_n 0, 1) := by decide +kernel
theorem dX12_goes_16 : decode cX12_goes 16 = .ok (.getfield 456, 3) := by decide +kernel
theorem dX12_goes_19 : decode cX12_goes 19 = .ok (.ifCond .eq 31, 3) := by decide +kernel
theorem dX12_goes_22 : decode cX12_goes 22 = .ok (.aload_n 0, 1) := by decide +kernel
theorem dX12_goes_23 : decode cX12_goes 23 = .ok (.getfield 77, 3) := by decide +kernel
theorem dX12_goes_26 : decode cX12_goes 26 = .ok (.iload_n 3, 1) := by decide +kernel
theorem dX12_goes_27 : decode cX12_goes 27 = .ok (.iaload, 1) := by decide +kernel
theorem dX12_goes_28 : decode cX12_goes 28 = .ok (.ifCond .ge 6, 3) := by decide +kernel
theorem dX12_goes_31 : decode cX12_goes 31 = .ok (.goto 13, 3) := by decide +kernel
theorem dX12_goes_34 : decode cX12_goes 34 = .ok (.iload_n 2, 1) := by decide +kernel
theorem dX12_goes_35 : decode cX12_goes 35 = .ok (.iload_n 1, 1) := by decide +kernel
theorem dX12_goes_36 : decode cX12_goes 36 = .ok (.if_icmp .ne 5, 3) := by decide +kernel
theorem dX12_goes_39 : decode cX12_goes 39 = .ok (.iload_n 3, 1) := by decide +kernel
theorem dX12_goes_40 : decode cX12_goes 40 = .ok (.ireturn, 1) := by decide +kernel
theorem dX12_goes_41 : decode cX12_goes 41 = .ok (.iinc 2 1, 3) := by decide +kernel
theorem dX12_goes_44 : decode cX12_goes 44 = .ok (.iinc 3 1, 3) := by decide +kernel
theorem dX12_goes_47 : decode cX12_goes 47 = .ok (.goto (-38), 3) := by decide +kernel
theorem dX12_goes_50 : decode cX12_goes 50 = .ok (.iconst (-1), 1) := by decide +kernel
theorem dX12_goes_51 : decode cX12_goes 51 = .ok (.ireturn, 1) := by decide +kernel
abbrev M_X12_goes : mM := (cX12_goes, 4, RX12, some .int, false, 0, 0, 0, 0)
theorem gX12_goes : cI yX12_goes M_X12_goes 1 := ⟨(wsl_48 _ (List.mem_of_getElem? (i := 6) rfl)), (wsl_48 _ (List.mem_of_getElem? (i := 7) rfl)), (wsl_1 _ (List.mem_of_getElem? (i := 5) rfl)), (wsl_48 _ (List.mem_of_getElem? (i := 8) rfl)), by decide +kernel⟩
noncomputable def fX12_goes_s9 (h : hH) (a0 a1 : Int) : Int × Int → Option ((Int × Int) ⊕ (Int × hH)) := fun (l2, l3) =>
  if l3 < 99 then
    if h a0 42 = 0 then
      some (.inr ((-1, h)))
    else
      (aget h (h a0 37) l3).bind fun v27 =>
      if v27 < 0 then
        some (.inl (l2, w32 (l3 + 1)))
      else
        if l2 = a1 then
          some (.inr ((l3, h)))
        else
          some (.inl (w32 (l2 + 1), w32 (l3 + 1)))
  else
    some (.inr ((-1, h)))
noncomputable def fX12_goes (h : hH) (a0 a1 : Int) : Option (Int × hH) :=
  (pput h a0 0 0).bind fun h2 =>
  lpO (fX12_goes_s9 h2 a0 a1) (0, 0)
section M_X12_goes
variable {p : Program} {l : Launch} {e : Env} {R : Room} {s : State} {m : MethodId} {args : Array Value} {below : List Frame} {meth : Method} {c : Code} {D : va_G} {G : gG} {A : Nat → Prop} {H0 : Heap} {n0 : Int} {x : Option vV × hH} {h : hH}
set_option maxRecDepth 100000 in
set_option maxHeartbeats 4000000 in
theorem oX12_goes_s9 {a0 a1 l2 l3 : Int} {K : (Int × Int) ⊕ (Int × hH) → Prop} (k0 : ∀ r, K (.inr (r)) → x = (some (0, r.1), r.2)) (k1 : ∀ (l2 : Int) (l3 : Int), K (.inl (l2, l3)) → Wq p l e R s m args below meth c D G A H0 true n0 M_X12_goes x 0 0 9 [(0, (22, a0)), (1, (0, a1)), (2, (0, l2)), (3, (0, l3))] [] h) {r : (Int × Int) ⊕ (Int × hH)} (hr : fX12_goes_s9 h a0 a1 (l2, l3) = some r) (hk : K r) : Wq p l e R s m args below meth c D G A H0 true n0 M_X12_goes x 0 0 9 [(0, (22, a0)), (1, (0, a1)), (2, (0, l2)), (3, (0, l3))] [] h := by
  unfold fX12_goes_s9 at hr
  refine r_iload_n dX12_goes_9 rfl 3 rfl (Or.inl rfl) ?_
  refine r_bipush dX12_goes_10 (by decide) (by decide) ?_
  refine r_icmp_ge dX12_goes_12 (tgt := 50) (by decide) (fun hc => ?_) (fun hc => ?_)
  · have hr := ifn hr hc
    refine r_iconst dX12_goes_50 (by decide) ?_
    obtain rfl := Option.some.inj hr
    exact r_ret dX12_goes_51 rfl (Or.inl ⟨rfl, rfl⟩) (k0 _ hk) ⟨rfl, rfl⟩
  · have hr := ifp hr hc
    refine r_aload_n dX12_goes_15 rfl 0 rfl (nl rfl) ?_
    refine r_get 12 42 (o := a0) (w := (2, h a0 42)) (T := TX12) (ref := "FollowingRefsModel") rfl (by decide) rfl (by decide) inlX12 (wsl_46 _ (List.mem_of_getElem? (i := 12) rfl)) rfl dX12_goes_16 rfl ?_
    refine r_scast 0 (v := (2, h a0 42)) (w := (0, h a0 42)) rfl zc hTz (st' := [(0, h a0 42)]) rfl ?_
    refine r_if_eq dX12_goes_19 (tgt := 50) (by decide) (fun hc => ?_) (fun hc => ?_)
    · have hr := ifp hr hc
      refine r_iconst dX12_goes_50 (by decide) ?_
      obtain rfl := Option.some.inj hr
      exact r_ret dX12_goes_51 rfl (Or.inl ⟨rfl, rfl⟩) (k0 _ hk) ⟨rfl, rfl⟩
    · have hr := ifn hr hc
      refine r_aload_n dX12_goes_22 rfl 0 rfl (nl rfl) ?_
      refine r_get 12 37 (o := a0) (w := (50, h a0 37)) (T := TX12) (ref := "FollowingRefsModel") rfl (by decide) rfl (by decide) inlX12 (wsl_7 _ (List.mem_of_getElem? (i := 22) rfl)) rfl dX12_goes_23 rfl ?_
      refine r_iload_n dX12_goes_26 rfl 3 rfl (Or.inl rfl) ?_
      obtain ⟨v27, hg27, hr⟩ := bnd hr
      refine r_iald dX12_goes_27 hg27 ?_
      refine r_if_ge dX12_goes_28 (tgt := 34) (by decide) (fun hc => ?_) (fun hc => ?_)
      · have hr := ifn hr hc
        refine r_iload_n dX12_goes_34 rfl 2 rfl (Or.inl rfl) ?_
        refine r_iload_n dX12_goes_35 rfl 1 rfl (Or.inl rfl) ?_
        refine r_icmp_ne dX12_goes_36 (tgt := 41) (by decide) (fun hc => ?_) (fun hc => ?_)
        · have hr := ifn hr hc
          refine r_iinc (k := 2) (v := l2) dX12_goes_41 rfl (by decide) (lv' := [(2, (0, w32 (l2 + 1))), (0, (22, a0)), (1, (0, a1)), (3, (0, l3))]) rfl ?_
          refine r_iinc (k := 3) (v := l3) dX12_goes_44 rfl (by decide) (lv' := [(3, (0, w32 (l3 + 1))), (2, (0, w32 (l2 + 1))), (0, (22, a0)), (1, (0, a1))]) rfl ?_
          refine r_goto dX12_goes_47 (tgt := 9) (by decide) ?_
          refine r_sub [2, 3, 1, 0] (lv' := [(0, (22, a0)), (1, (0, a1)), (2, (0, w32 (l2 + 1))), (3, (0, w32 (l3 + 1)))]) rfl ?_
          obtain rfl := Option.some.inj hr
          exact k1 _ _ hk
        · have hr := ifp hr hc
          refine r_iload_n dX12_goes_39 rfl 3 rfl (Or.inl rfl) ?_
          obtain rfl := Option.some.inj hr
          exact r_ret dX12_goes_40 rfl (Or.inl ⟨rfl, rfl⟩) (k0 _ hk) ⟨rfl, rfl⟩
      · have hr := ifp hr hc
        refine r_goto dX12_goes_31 (tgt := 44) (by decide) ?_
        refine r_iinc (k := 3) (v := l3) dX12_goes_44 rfl (by decide) (lv' := [(3, (0, w32 (l3 + 1))), (0, (22, a0)), (1, (0, a1)), (2, (0, l2))]) rfl ?_
        refine r_goto dX12_goes_47 (tgt := 9) (by decide) ?_
        refine r_sub [1, 2, 3, 0] (lv' := [(0, (22, a0)), (1, (0, a1)), (2, (0, l2)), (3, (0, w32 (l3 + 1)))]) rfl ?_
        obtain rfl := Option.some.inj hr
        exact k1 _ _ hk
set_option maxRecDepth 100000 in
set_option maxHeartbeats 4000000 in
theorem oX12_goes_b0 {a0 a1 : Int} {K : Int × hH → Prop} (k0 : ∀ r, K (r) → x = (some (0, r.1), r.2)) {r : Int × hH} (hr : fX12_goes h a0 a1 = some r) (hk : K r) : Wq p l e R s m args below meth c D G A H0 true n0 M_X12_goes x 0 0 0 [(0, (22, a0)), (1, (0, a1))] [] h := by
  unfold fX12_goes at hr
  refine r_aload_n dX12_goes_0 rfl 0 rfl (nl rfl) ?_
  refine r_iconst dX12_goes_1 (by decide) ?_
  obtain ⟨h2, hg2, hr⟩ := bnd hr
  refine r_put' 12 0 (t := 0) (ref := "FollowingRefsModel") hg2 rfl tyX12 tyX12_ok nmX12 rfl (by decide) rfl (by decide) inlX12 (wsl_10 _ (List.mem_of_getElem? (i := 11) rfl)) rfl rfl (by decide +kernel) (by decide) rfl (Or.inl ⟨rfl, rfl⟩) dX12_goes_2 ?_
  refine r_iconst dX12_goes_5 (by decide) ?_
  refine r_istore_n dX12_goes_6 rfl (Or.inl rfl) (by decide) (lv' := [(2, (0, 0)), (0, (22, a0)), (1, (0, a1))]) rfl ?_
  refine r_iconst dX12_goes_7 (by decide) ?_
  refine r_istore_n dX12_goes_8 rfl (Or.inl rfl) (by decide) (lv' := [(3, (0, 0)), (2, (0, 0)), (0, (22, a0)), (1, (0, a1))]) rfl ?_
  refine r_sub [2, 3, 1, 0] (lv' := [(0, (22, a0)), (1, (0, a1)), (2, (0, 0)), (3, (0, 0))]) rfl ?_
  exact lp_ok (w := fun (q : Int × Int) => Wq p l e R s m args below meth c D G A H0 true n0 M_X12_goes x 0 0 9 [(0, (22, a0)), (1, (0, a1)), (2, (0, q.1)), (3, (0, q.2))] [] (h2)) (K := K) (fun ⟨q0, q1⟩ r z1 z2 => oX12_goes_s9 (K := Sum.elim (fun (q : Int × Int) => Wq p l e R s m args below meth c D G A H0 true n0 M_X12_goes x 0 0 9 [(0, (22, a0)), (1, (0, a1)), (2, (0, q.1)), (3, (0, q.2))] [] (h2)) (K)) (fun r z => k0 r z) (fun _ _ z => z) z1 z2) hr hk
end M_X12_goes
theorem oX12_goes {l : Launch} {D : va_G} {G : gG} {h : hH} {a0 a1 : Int} {r : Int × hH} (hr : fX12_goes h a0 a1 = some r) : Ctr l D G true yX12_goes M_X12_goes [(22, a0), (0, a1)] h (some (0, r.1), r.2) :=
  Ctr_of (by decide) rfl (fun z => by cases z) (nl rfl) (fun {p e R s m args below meth c A H0} => by
    exact oX12_goes_b0 (K := fun z9 => z9 = r) (fun r9 z => by rw [z]) hr rfl)
/-! X12_steps -/
theorem dX12_steps_0 : decode cX12_steps 0 = .ok (.aload_n 0, 1) := by decide +kernel
theorem dX12_steps_1 : decode cX12_steps 1 = .ok (.iconst 0, 1) := by decide +kernel
theorem dX12_steps_2 : decode cX12_steps 2 = .ok (.putfield 1, 3) := by decide +kernel
theorem dX12_steps_5 : decode cX12_steps 5 = .ok (.aload_n 0, 1) := by decide +kernel
theorem dX12_steps_6 : decode cX12_steps 6 = .ok (.getfield 456, 3) := by decide +kernel
theorem dX12_steps_9 : decode cX12_steps 9 = .ok (.ifCond .eq 22, 3) := by decide +kernel
theorem dX12_steps_12 : decode cX12_steps 12 = .ok (.iload_n 1, 1) := by decide +kernel
theorem dX12_steps_13 : decode cX12_steps 13 = .ok (.iconst 0, 1) := by decide +kernel
theorem dX12_steps_14 : decode cX12_steps 14 = .ok (.bipush 98, 2) := by decide +kernel
theorem dX12_steps_16 : decode cX12_steps 16 = .ok (.invokestatic 229, 3) := by decide +kernel
theorem dX12_steps_19 : decode cX12_steps 19 = .ok (.ifCond .eq 12, 3) := by decide +kernel
theorem dX12_steps_22 : decode cX12_steps 22 = .ok (.aload_n 0, 1) := by decide +kernel
theorem dX12_steps_23 : decode cX12_steps 23 = .ok (.getfield 77, 3) := by decide +kernel
theorem dX12_steps_26 : decode cX12_steps 26 = .ok (.iload_n 1, 1) := by decide +kernel
theorem dX12_steps_27 : decode cX12_steps 27 = .ok (.iaload, 1) := by decide +kernel
theorem dX12_steps_28 : decode cX12_steps 28 = .ok (.goto 4, 3) := by decide +kernel
theorem dX12_steps_31 : decode cX12_steps 31 = .ok (.iconst (-1), 1) := by decide +kernel
theorem dX12_steps_32 : decode cX12_steps 32 = .ok (.ireturn, 1) := by decide +kernel
abbrev M_X12_steps : mM := (cX12_steps, 2, RX12, some .int, false, 1, 22, 0, 0)
theorem gX12_steps : cI yX12_steps M_X12_steps 1 := ⟨(wsl_48 _ (List.mem_of_getElem? (i := 15) rfl)), (wsl_48 _ (List.mem_of_getElem? (i := 16) rfl)), (wsl_1 _ (List.mem_of_getElem? (i := 5) rfl)), (wsl_48 _ (List.mem_of_getElem? (i := 17) rfl)), by decide +kernel⟩
noncomputable def fX12_steps (h : hH) (a0 a1 : Int) : Option (Int × hH) :=
  (pput h a0 0 0).bind fun h2 =>
  if h2 a0 42 = 0 then
    some (-1, h2)
  else
    (fX12_isIn h2 a1 0 98).bind fun r16 =>
    if r16 = 0 then
      some (-1, h2)
    else
      (aget h2 (h2 a0 37) a1).bind fun v27 =>
      some (v27, h2)
section M_X12_steps
variable {p : Program} {l : Launch} {e : Env} {R : Room} {s : State} {m : MethodId} {args : Array Value} {below : List Frame} {meth : Method} {c : Code} {D : va_G} {G : gG} {A : Nat → Prop} {H0 : Heap} {n0 : Int} {x : Option vV × hH} {h : hH}
set_option maxRecDepth 100000 in
set_option maxHeartbeats 4000000 in
theorem oX12_steps_b0 {a0 a1 : Int} {K : Int × hH → Prop} (k0 : ∀ r, K (r) → x = (some (0, r.1), r.2)) {r : Int × hH} (hr : fX12_steps h a0 a1 = some r) (hk : K r) : Wq p l e R s m args below meth c D G A H0 true n0 M_X12_steps x 0 0 0 [(0, (22, a0)), (1, (0, a1))] [] h := by
  unfold fX12_steps at hr
  refine r_aload_n dX12_steps_0 rfl 0 rfl (nl rfl) ?_
  refine r_iconst dX12_steps_1 (by decide) ?_
  obtain ⟨h2, hg2, hr⟩ := bnd hr
  refine r_put' 12 0 (t := 0) (ref := "FollowingRefsModel") hg2 rfl tyX12 tyX12_ok nmX12 rfl (by decide) rfl (by decide) inlX12 (wsl_10 _ (List.mem_of_getElem? (i := 11) rfl)) rfl rfl (by decide +kernel) (by decide) rfl (Or.inl ⟨rfl, rfl⟩) dX12_steps_2 ?_
  refine r_aload_n dX12_steps_5 rfl 0 rfl (nl rfl) ?_
  refine r_get 12 42 (o := a0) (w := (2, h2 a0 42)) (T := TX12) (ref := "FollowingRefsModel") rfl (by decide) rfl (by decide) inlX12 (wsl_46 _ (List.mem_of_getElem? (i := 12) rfl)) rfl dX12_steps_6 rfl ?_
  refine r_scast 0 (v := (2, h2 a0 42)) (w := (0, h2 a0 42)) rfl zc hTz (st' := [(0, h2 a0 42)]) rfl ?_
  refine r_if_eq dX12_steps_9 (tgt := 31) (by decide) (fun hc => ?_) (fun hc => ?_)
  · have hr := ifp hr hc
    refine r_iconst dX12_steps_31 (by decide) ?_
    obtain rfl := Option.some.inj hr
    exact r_ret dX12_steps_32 rfl (Or.inl ⟨rfl, rfl⟩) (k0 _ hk) ⟨rfl, rfl⟩
  · have hr := ifn hr hc
    refine r_iload_n dX12_steps_12 rfl 1 rfl (Or.inl rfl) ?_
    refine r_iconst dX12_steps_13 (by decide) ?_
    refine r_bipush dX12_steps_14 (by decide) (by decide) ?_
    obtain ⟨r16, hg16, hr⟩ := bnd hr
    refine k_S (as := [(0, a1), (0, 0), (0, 98)]) (rest := []) (X := (some (2, r16), h2)) (oX12_isIn hg16) gX12_isIn rfl (wsl_28 _ (List.mem_of_getElem? (i := 1) rfl)) rfl dX12_steps_16 rfl ?_
    refine r_scast 0 (v := (2, r16)) (w := (0, r16)) rfl zc hTz (st' := [(0, r16)]) rfl ?_
    refine r_if_eq dX12_steps_19 (tgt := 31) (by decide) (fun hc => ?_) (fun hc => ?_)
    · have hr := ifp hr hc
      refine r_iconst dX12_steps_31 (by decide) ?_
      obtain rfl := Option.some.inj hr
      exact r_ret dX12_steps_32 rfl (Or.inl ⟨rfl, rfl⟩) (k0 _ hk) ⟨rfl, rfl⟩
    · have hr := ifn hr hc
      refine r_aload_n dX12_steps_22 rfl 0 rfl (nl rfl) ?_
      refine r_get 12 37 (o := a0) (w := (50, h2 a0 37)) (T := TX12) (ref := "FollowingRefsModel") rfl (by decide) rfl (by decide) inlX12 (wsl_7 _ (List.mem_of_getElem? (i := 22) rfl)) rfl dX12_steps_23 rfl ?_
      refine r_iload_n dX12_steps_26 rfl 1 rfl (Or.inl rfl) ?_
      obtain ⟨v27, hg27, hr⟩ := bnd hr
      refine r_iald dX12_steps_27 hg27 ?_
      refine r_goto dX12_steps_28 (tgt := 32) (by decide) ?_
      obtain rfl := Option.some.inj hr
      exact r_ret dX12_steps_32 rfl (Or.inl ⟨rfl, rfl⟩) (k0 _ hk) ⟨rfl, rfl⟩
end M_X12_steps
theorem oX12_steps {l : Launch} {D : va_G} {G : gG} {h : hH} {a0 a1 : Int} {r : Int × hH} (hr : fX12_steps h a0 a1 = some r) : Ctr l D G true yX12_steps M_X12_steps [(22, a0), (0, a1)] h (some (0, r.1), r.2) :=
  Ctr_of (by decide) rfl (fun z => by cases z) (nl rfl) (fun {p e R s m args below meth c A H0} => by
    exact oX12_steps_b0 (K := fun z9 => z9 = r) (fun r9 z => by rw [z]) hr rfl)
/-! X12_violated -/
theorem dX12_violated_0 : decode cX12_violated 0 = .ok (.aload_n 0, 1) := by decide +kernel
theorem dX12_violated_1 : decode cX12_violated 1 = .ok (.iconst 0, 1) := by decide +kernel
theorem dX12_violated_2 : decode cX12_violated 2 = .ok (.putfield 1, 3) := by decide +kernel
theorem dX12_violated_5 : decode cX12_violated 5 = .ok (.iload_n 1, 1) := by decide +kernel
theorem dX12_violated_6 : decode cX12_violated 6 = .ok (.iconst 0, 1) := by decide +kernel
theorem dX12_violated_7 : decode cX12_violated 7 = .ok (.aload_n 0, 1) := by decide +kernel
theorem dX12_violated_8 : decode cX12_violated 8 = .ok (.getfield 459, 3) := by decide +kernel
theorem dX12_violated_11 : decode cX12_violated 11 = .ok (.iconst 1, 1) := by decide +kernel
theorem dX12_violated_12 : decode cX12_violated 12 = .ok (.isub, 1) := by decide +kernel
theorem dX12_violated_13 : decode cX12_violated 13 = .ok (.invokestatic 229, 3) := by decide +kernel
theorem dX12_violated_16 : decode cX12_violated 16 = .ok (.ifCond .ne 5, 3) := by decide +kernel
theorem dX12_violated_19 : decode cX12_violated 19 = .ok (.iconst (-1), 1) := by decide +kernel
theorem dX12_violated_20 : decode cX12_violated 20 = .ok (.ireturn, 1) := by decide +kernel
theorem dX12_violated_21 : decode cX12_violated 21 = .ok (.iload_n 2, 1) := by decide +kernel
theorem dX12_violated_22 : decode cX12_violated 22 = .ok (.ifCond .ne 12, 3) := by decide +kernel
theorem dX12_violated_25 : decode cX12_violated 25 = .ok (.aload_n 0, 1) := by decide +kernel
theorem dX12_violated_26 : decode cX12_violated 26 = .ok (.getfield 80, 3) := by decide +kernel
theorem dX12_violated_29 : decode cX12_violated 29 = .ok (.iload_n 1, 1) := by decide +kernel
theorem dX12_violated_30 : decode cX12_violated 30 = .ok (.iaload, 1) := by decide +kernel
theorem dX12_violated_31 : decode cX12_violated 31 = .ok (.goto 32, 3) := by decide +kernel
theorem dX12_violated_34 : decode cX12_violated 34 = .ok (.iload_n 2, 1) := by decide +kernel
theorem dX12_violated_35 : decode cX12_violated 35 = .ok (.iconst 1, 1) := by decide +kernel
theorem dX12_violated_36 : decode cX12_violated 36 = .ok (.if_icmp .ne 12, 3) := by decide +kernel
theorem dX12_violated_39 : decode cX12_violated 39 = .ok (.aload_n 0, 1) := by decide +kernel
theorem dX12_violated_40 : decode cX12_violated 40 = .ok (.getfield 83, 3) := by decide +kernel
theorem dX12_violated_43 : decode cX12_violated 43 = .ok (.iload_n 1, 1) := by decide +kernel
theorem dX12_violated_44 : decode cX12_violated 44 = .ok (.iaload, 1) := by decide +kernel
theorem dX12_violated_45 : decode cX12_violated 45 = .ok (.goto 18, 3) := by decide +kernel
theorem dX12_violated_48 : decode cX12_violated 48 = .ok (.iload_n 2, 1) := by decide +kernel
theorem dX12_violated_49 : decode cX12_violated 49 = .ok (.iconst 2, 1) := by decide +kernel
theorem dX12_violated_50 : decode cX12_violated 50 = .ok (.if_icmp .ne 12, 3) := by decide +kernel
theorem dX12_violated_53 : decode cX12_violated 53 = .ok (.aload_n 0, 1) := by decide +kernel
theorem dX12_violated_54 : decode cX12_violated 54 = .ok (.getfield 86, 3) := by decide +kernel
theorem dX12_violated_57 : decode cX12_violated 57 = .ok (.iload_n 1, 1) := by decide +kernel
theorem dX12_violated_58 : decode cX12_violated 58 = .ok (.iaload, 1) := by decide +kernel
theorem dX12_violated_59 : decode cX12_violated 59 = .ok (.goto 4, 3) := by decide +kernel
theorem dX12_violated_62 : decode cX12_violated 62 = .ok (.iconst (-1), 1) := by decide +kernel
theorem dX12_violated_63 : decode cX12_violated 63 = .ok (.ireturn, 1) := by decide +kernel
abbrev M_X12_violated : mM := (cX12_violated, 3, RX12, some .int, false, 1, 22, 0, 0)
theorem gX12_violated : cI yX12_violated M_X12_violated 2 := ⟨(wsl_49 _ (List.mem_of_getElem? (i := 1) rfl)), (wsl_49 _ (List.mem_of_getElem? (i := 2) rfl)), (wsl_1 _ (List.mem_of_getElem? (i := 5) rfl)), (wsl_49 _ (List.mem_of_getElem? (i := 3) rfl)), by decide +kernel⟩
noncomputable def fX12_violated (h : hH) (a0 a1 a2 : Int) : Option (Int × hH) :=
  (pput h a0 0 0).bind fun h2 =>
  (fX12_isIn h2 a1 0 (w32 ((h2 a0 41) - 1))).bind fun r13 =>
  if r13 = 0 then
    some (-1, h2)
  else
    if a2 = 0 then
      (aget h2 (h2 a0 38) a1).bind fun v30 =>
      some (v30, h2)
    else
      if a2 = 1 then
        (aget h2 (h2 a0 39) a1).bind fun v44 =>
        some (v44, h2)
      else
        if a2 = 2 then
          (aget h2 (h2 a0 40) a1).bind fun v58 =>
          some (v58, h2)
        else
          some (-1, h2)
section M_X12_violated
variable {p : Program} {l : Launch} {e : Env} {R : Room} {s : State} {m : MethodId} {args : Array Value} {below : List Frame} {meth : Method} {c : Code} {D : va_G} {G : gG} {A : Nat → Prop} {H0 : Heap} {n0 : Int} {x : Option vV × hH} {h : hH}
set_option maxRecDepth 100000 in
set_option maxHeartbeats 4000000 in
theorem oX12_violated_b0 {a0 a1 a2 : Int} {K : Int × hH → Prop} (k0 : ∀ r, K (r) → x = (some (0, r.1), r.2)) {r : Int × hH} (hr : fX12_violated h a0 a1 a2 = some r) (hk : K r) : Wq p l e R s m args below meth c D G A H0 true n0 M_X12_violated x 0 0 0 [(0, (22, a0)), (1, (0, a1)), (2, (0, a2))] [] h := by
  unfold fX12_violated at hr
  refine r_aload_n dX12_violated_0 rfl 0 rfl (nl rfl) ?_
  refine r_iconst dX12_violated_1 (by decide) ?_
  obtain ⟨h2, hg2, hr⟩ := bnd hr
  refine r_put' 12 0 (t := 0) (ref := "FollowingRefsModel") hg2 rfl tyX12 tyX12_ok nmX12 rfl (by decide) rfl (by decide) inlX12 (wsl_10 _ (List.mem_of_getElem? (i := 11) rfl)) rfl rfl (by decide +kernel) (by decide) rfl (Or.inl ⟨rfl, rfl⟩) dX12_violated_2 ?_
  refine r_iload_n dX12_violated_5 rfl 1 rfl (Or.inl rfl) ?_
  refine r_iconst dX12_violated_6 (by decide) ?_
  refine r_aload_n dX12_violated_7 rfl 0 rfl (nl rfl) ?_
  refine r_get 12 41 (o := a0) (w := (0, h2 a0 41)) (T := TX12) (ref := "FollowingRefsModel") rfl (by decide) rfl (by decide) inlX12 (wsl_46 _ (List.mem_of_getElem? (i := 17) rfl)) rfl dX12_violated_8 rfl ?_
  refine r_iconst dX12_violated_11 (by decide) ?_
  refine r_isub dX12_violated_12 ?_
  obtain ⟨r13, hg13, hr⟩ := bnd hr
  refine k_S (as := [(0, a1), (0, 0), (0, w32 ((h2 a0 41) - 1))]) (rest := []) (X := (some (2, r13), h2)) (oX12_isIn hg13) gX12_isIn rfl (wsl_28 _ (List.mem_of_getElem? (i := 1) rfl)) rfl dX12_violated_13 rfl ?_
  refine r_scast 0 (v := (2, r13)) (w := (0, r13)) rfl zc hTz (st' := [(0, r13)]) rfl ?_
  refine r_if_ne dX12_violated_16 (tgt := 21) (by decide) (fun hc => ?_) (fun hc => ?_)
  · have hr := ifn hr hc
    refine r_iload_n dX12_violated_21 rfl 2 rfl (Or.inl rfl) ?_
    refine r_if_ne dX12_violated_22 (tgt := 34) (by decide) (fun hc => ?_) (fun hc => ?_)
    · have hr := ifn hr hc
      refine r_iload_n dX12_violated_34 rfl 2 rfl (Or.inl rfl) ?_
      refine r_iconst dX12_violated_35 (by decide) ?_
      refine r_icmp_ne dX12_violated_36 (tgt := 48) (by decide) (fun hc => ?_) (fun hc => ?_)
      · have hr := ifn hr hc
        refine r_iload_n dX12_violated_48 rfl 2 rfl (Or.inl rfl) ?_
        refine r_iconst dX12_violated_49 (by decide) ?_
        refine r_icmp_ne dX12_violated_50 (tgt := 62) (by decide) (fun hc => ?_) (fun hc => ?_)
        · have hr := ifn hr hc
          refine r_iconst dX12_violated_62 (by decide) ?_
          obtain rfl := Option.some.inj hr
          exact r_ret dX12_violated_63 rfl (Or.inl ⟨rfl, rfl⟩) (k0 _ hk) ⟨rfl, rfl⟩
        · have hr := ifp hr hc
          refine r_aload_n dX12_violated_53 rfl 0 rfl (nl rfl) ?_
          refine r_get 12 40 (o := a0) (w := (50, h2 a0 40)) (T := TX12) (ref := "FollowingRefsModel") rfl (by decide) rfl (by decide) inlX12 (wsl_8 _ (List.mem_of_getElem? (i := 1) rfl)) rfl dX12_violated_54 rfl ?_
          refine r_iload_n dX12_violated_57 rfl 1 rfl (Or.inl rfl) ?_
          obtain ⟨v58, hg58, hr⟩ := bnd hr
          refine r_iald dX12_violated_58 hg58 ?_
          refine r_goto dX12_violated_59 (tgt := 63) (by decide) ?_
          obtain rfl := Option.some.inj hr
          exact r_ret dX12_violated_63 rfl (Or.inl ⟨rfl, rfl⟩) (k0 _ hk) ⟨rfl, rfl⟩
      · have hr := ifp hr hc
        refine r_aload_n dX12_violated_39 rfl 0 rfl (nl rfl) ?_
        refine r_get 12 39 (o := a0) (w := (50, h2 a0 39)) (T := TX12) (ref := "FollowingRefsModel") rfl (by decide) rfl (by decide) inlX12 (wsl_8 _ (List.mem_of_getElem? (i := 0) rfl)) rfl dX12_violated_40 rfl ?_
        refine r_iload_n dX12_violated_43 rfl 1 rfl (Or.inl rfl) ?_
        obtain ⟨v44, hg44, hr⟩ := bnd hr
        refine r_iald dX12_violated_44 hg44 ?_
        refine r_goto dX12_violated_45 (tgt := 63) (by decide) ?_
        obtain rfl := Option.some.inj hr
        exact r_ret dX12_violated_63 rfl (Or.inl ⟨rfl, rfl⟩) (k0 _ hk) ⟨rfl, rfl⟩
    · have hr := ifp hr hc
      refine r_aload_n dX12_violated_25 rfl 0 rfl (nl rfl) ?_
      refine r_get 12 38 (o := a0) (w := (50, h2 a0 38)) (T := TX12) (ref := "FollowingRefsModel") rfl (by decide) rfl (by decide) inlX12 (wsl_7 _ (List.mem_of_getElem? (i := 23) rfl)) rfl dX12_violated_26 rfl ?_
      refine r_iload_n dX12_violated_29 rfl 1 rfl (Or.inl rfl) ?_
      obtain ⟨v30, hg30, hr⟩ := bnd hr
      refine r_iald dX12_violated_30 hg30 ?_
      refine r_goto dX12_violated_31 (tgt := 63) (by decide) ?_
      obtain rfl := Option.some.inj hr
      exact r_ret dX12_violated_63 rfl (Or.inl ⟨rfl, rfl⟩) (k0 _ hk) ⟨rfl, rfl⟩
  · have hr := ifp hr hc
    refine r_iconst dX12_violated_19 (by decide) ?_
    obtain rfl := Option.some.inj hr
    exact r_ret dX12_violated_20 rfl (Or.inl ⟨rfl, rfl⟩) (k0 _ hk) ⟨rfl, rfl⟩
end M_X12_violated
theorem oX12_violated {l : Launch} {D : va_G} {G : gG} {h : hH} {a0 a1 a2 : Int} {r : Int × hH} (hr : fX12_violated h a0 a1 a2 = some r) : Ctr l D G true yX12_violated M_X12_violated [(22, a0), (0, a1), (0, a2)] h (some (0, r.1), r.2) :=
  Ctr_of (by decide) rfl (fun z => by cases z) (nl rfl) (fun {p e R s m args below meth c A H0} => by
    exact oX12_violated_b0 (K := fun z9 => z9 = r) (fun r9 z => by rw [z]) hr rfl)
/-! X12_tries -/
theorem dX12_tries_0 : decode cX12_tries 0 = .ok (.iconst 0, 1) := by decide +kernel
theorem dX12_tries_1 : decode cX12_tries 1 = .ok (.istore_n 1, 1) := by decide +kernel
theorem dX12_tries_2 : decode cX12_tries 2 = .ok (.iload_n 1, 1) := by decide +kernel
theorem dX12_tries_3 : decode cX12_tries 3 = .ok (.sipush 1091, 3) := by decide +kernel
theorem dX12_tries_6 : decode cX12_tries 6 = .ok (.if_icmp .ge 25, 3) := by decide +kernel
theorem dX12_tries_9 : decode cX12_tries 9 = .ok (.aload_n 0, 1) := by decide +kernel
theorem dX12_tries_10 : decode cX12_tries 10 = .ok (.getfield 92, 3) := by decide +kernel
theorem dX12_tries_13 : decode cX12_tries 13 = .ok (.iload_n 1, 1) := by decide +kernel
theorem dX12_tries_14 : decode cX12_tries 14 = .ok (.aload_n 0, 1) := by decide +kernel
theorem dX12_tries_15 : decode cX12_tries 15 = .ok (.getfield 33, 3) := by decide +kernel
theorem dX12_tries_18 : decode cX12_tries 18 = .ok (.sipush 148, 3) := by decide +kernel
theorem dX12_tries_21 : decode cX12_tries 21 = .ok (.iload_n 1, 1) := by decide +kernel
theorem dX12_tries_22 : decode cX12_tries 22 = .ok (.iadd, 1) := by decide +kernel
theorem dX12_tries_23 : decode cX12_tries 23 = .ok (.iaload, 1) := by decide +kernel
theorem dX12_tries_24 : decode cX12_tries 24 = .ok (.iastore, 1) := by decide +kernel
theorem dX12_tries_25 : decode cX12_tries 25 = .ok (.iinc 1 1, 3) := by decide +kernel
theorem dX12_tries_28 : decode cX12_tries 28 = .ok (.goto (-26), 3) := by decide +kernel
theorem dX12_tries_31 : decode cX12_tries 31 = .ok (.return_, 1) := by decide +kernel
abbrev M_X12_tries : mM := (cX12_tries, 2, RX12, none, false, 0, 0, 0, 0)
theorem gX12_tries : cI yX12_tries M_X12_tries 0 := ⟨(wsl_49 _ (List.mem_of_getElem? (i := 22) rfl)), (wsl_49 _ (List.mem_of_getElem? (i := 23) rfl)), (wsl_1 _ (List.mem_of_getElem? (i := 5) rfl)), (wsl_50 _ (List.mem_of_getElem? (i := 0) rfl)), by decide +kernel⟩
noncomputable def fX12_tries_s2 (h0 : hH) (a0 : Int) : hH × Int → Option ((hH × Int) ⊕ (hH)) := fun (h, l1) =>
  if l1 < 1091 then
    (aget h (h a0 6) (w32 (148 + l1))).bind fun v23 =>
    (aput h (h a0 45) l1 v23).bind fun h24 =>
    some (.inl (h24, w32 (l1 + 1)))
  else
    some (.inr (h))
noncomputable def fX12_tries (h : hH) (a0 : Int) : Option (hH) :=
  lpO (fX12_tries_s2 h a0) (h, 0)
section M_X12_tries
variable {p : Program} {l : Launch} {e : Env} {R : Room} {s : State} {m : MethodId} {args : Array Value} {below : List Frame} {meth : Method} {c : Code} {D : va_G} {G : gG} {A : Nat → Prop} {H0 : Heap} {n0 : Int} {x : Option vV × hH} {h : hH}
set_option maxRecDepth 100000 in
set_option maxHeartbeats 4000000 in
theorem oX12_tries_s2 {h0 : hH} {a0 l1 : Int} {K : (hH × Int) ⊕ (hH) → Prop} (k0 : ∀ r, K (.inr (r)) → x = (none, r)) (k1 : ∀ (h : hH) (l1 : Int), K (.inl (h, l1)) → Wq p l e R s m args below meth c D G A H0 true n0 M_X12_tries x 0 0 2 [(0, (22, a0)), (1, (0, l1))] [] h) {r : (hH × Int) ⊕ (hH)} (hr : fX12_tries_s2 h0 a0 (h, l1) = some r) (hk : K r) : Wq p l e R s m args below meth c D G A H0 true n0 M_X12_tries x 0 0 2 [(0, (22, a0)), (1, (0, l1))] [] h := by
  unfold fX12_tries_s2 at hr
  refine r_iload_n dX12_tries_2 rfl 1 rfl (Or.inl rfl) ?_
  refine r_sipush dX12_tries_3 (by decide) (by decide) ?_
  refine r_icmp_ge dX12_tries_6 (tgt := 31) (by decide) (fun hc => ?_) (fun hc => ?_)
  · have hr := ifn hr hc
    obtain rfl := Option.some.inj hr
    exact r_vret dX12_tries_31 rfl (k0 _ hk) ⟨rfl, rfl⟩
  · have hr := ifp hr hc
    refine r_aload_n dX12_tries_9 rfl 0 rfl (nl rfl) ?_
    refine r_get 12 45 (o := a0) (w := (50, h a0 45)) (T := TX12) (ref := "FollowingRefsModel") rfl (by decide) rfl (by decide) inlX12 (wsl_8 _ (List.mem_of_getElem? (i := 3) rfl)) rfl dX12_tries_10 rfl ?_
    refine r_iload_n dX12_tries_13 rfl 1 rfl (Or.inl rfl) ?_
    refine r_aload_n dX12_tries_14 rfl 0 rfl (nl rfl) ?_
    refine r_get 12 6 (o := a0) (w := (50, h a0 6)) (T := TX12) (ref := "FollowingRefsModel") rfl (by decide) rfl (by decide) inlX12 (wsl_7 _ (List.mem_of_getElem? (i := 8) rfl)) rfl dX12_tries_15 rfl ?_
    refine r_sipush dX12_tries_18 (by decide) (by decide) ?_
    refine r_iload_n dX12_tries_21 rfl 1 rfl (Or.inl rfl) ?_
    refine r_iadd dX12_tries_22 ?_
    obtain ⟨v23, hg23, hr⟩ := bnd hr
    refine r_iald dX12_tries_23 hg23 ?_
    obtain ⟨h24, hg24, hr⟩ := bnd hr
    refine r_iast dX12_tries_24 hg24 ?_
    refine r_iinc (k := 1) (v := l1) dX12_tries_25 rfl (by decide) (lv' := [(1, (0, w32 (l1 + 1))), (0, (22, a0))]) rfl ?_
    refine r_goto dX12_tries_28 (tgt := 2) (by decide) ?_
    refine r_sub [1, 0] (lv' := [(0, (22, a0)), (1, (0, w32 (l1 + 1)))]) rfl ?_
    obtain rfl := Option.some.inj hr
    exact k1 _ _ hk
set_option maxRecDepth 100000 in
set_option maxHeartbeats 4000000 in
theorem oX12_tries_b0 {a0 : Int} {K : hH → Prop} (k0 : ∀ r, K (r) → x = (none, r)) {r : hH} (hr : fX12_tries h a0 = some r) (hk : K r) : Wq p l e R s m args below meth c D G A H0 true n0 M_X12_tries x 0 0 0 [(0, (22, a0))] [] h := by
  unfold fX12_tries at hr
  refine r_iconst dX12_tries_0 (by decide) ?_
  refine r_istore_n dX12_tries_1 rfl (Or.inl rfl) (by decide) (lv' := [(1, (0, 0)), (0, (22, a0))]) rfl ?_
  refine r_sub [1, 0] (lv' := [(0, (22, a0)), (1, (0, 0))]) rfl ?_
  exact lp_ok (w := fun (q : hH × Int) => Wq p l e R s m args below meth c D G A H0 true n0 M_X12_tries x 0 0 2 [(0, (22, a0)), (1, (0, q.2))] [] (q.1)) (K := K) (fun ⟨q0, q1⟩ r h1 h2 => oX12_tries_s2 (K := Sum.elim (fun (q : hH × Int) => Wq p l e R s m args below meth c D G A H0 true n0 M_X12_tries x 0 0 2 [(0, (22, a0)), (1, (0, q.2))] [] (q.1)) (K)) (fun r z => k0 r z) (fun _ _ z => z) h1 h2) hr hk
end M_X12_tries
theorem oX12_tries {l : Launch} {D : va_G} {G : gG} {h : hH} {a0 : Int} {r : hH} (hr : fX12_tries h a0 = some r) : Ctr l D G true yX12_tries M_X12_tries [(22, a0)] h (none, r) :=
  Ctr_of (by decide) rfl (fun z => by cases z) (nl rfl) (fun {p e R s m args below meth c A H0} => by
    exact oX12_tries_b0 (K := fun z9 => z9 = r) (fun r9 z => by rw [z]) hr rfl)
/-! X12_keeps -/
theorem dX12_keeps_0 : decode cX12_keeps 0 = .ok (.aload_n 0, 1) := by decide +kernel
theorem dX12_keeps_1 : decode cX12_keeps 1 = .ok (.invokevirtual 483, 3) := by decide +kernel
theorem dX12_keeps_4 : decode cX12_keeps 4 = .ok (.aload_n 0, 1) := by decide +kernel
theorem dX12_keeps_5 : decode cX12_keeps 5 = .ok (.aload_n 0, 1) := by decide +kernel
theorem dX12_keeps_6 : decode cX12_keeps 6 = .ok (.getfield 92, 3) := by decide +kernel
theorem dX12_keeps_9 : decode cX12_keeps 9 = .ok (.invokevirtual 449, 3) := by decide +kernel
theorem dX12_keeps_12 : decode cX12_keeps 12 = .ok (.return_, 1) := by decide +kernel
abbrev M_X12_keeps : mM := (cX12_keeps, 1, RX12, none, false, 1, 22, 0, 0)
theorem gX12_keeps : cI yX12_keeps M_X12_keeps 0 := ⟨(wsl_49 _ (List.mem_of_getElem? (i := 18) rfl)), (wsl_49 _ (List.mem_of_getElem? (i := 19) rfl)), (wsl_1 _ (List.mem_of_getElem? (i := 5) rfl)), (wsl_49 _ (List.mem_of_getElem? (i := 20) rfl)), by decide +kernel⟩
noncomputable def fX12_keeps (h : hH) (a0 : Int) : Option (hH) :=
  (fX12_tries h a0).bind fun h1 =>
  (fX12_stores h1 a0 (h1 a0 45)).bind fun h9 =>
  some h9
section M_X12_keeps
variable {p : Program} {l : Launch} {e : Env} {R : Room} {s : State} {m : MethodId} {args : Array Value} {below : List Frame} {meth : Method} {c : Code} {D : va_G} {G : gG} {A : Nat → Prop} {H0 : Heap} {n0 : Int} {x : Option vV × hH} {h : hH}
set_option maxRecDepth 100000 in
set_option maxHeartbeats 4000000 in
theorem oX12_keeps_b0 {a0 : Int} {K : hH → Prop} (k0 : ∀ r, K (r) → x = (none, r)) {r : hH} (hr : fX12_keeps h a0 = some r) (hk : K r) : Wq p l e R s m args below meth c D G A H0 true n0 M_X12_keeps x 0 0 0 [(0, (22, a0))] [] h := by
  unfold fX12_keeps at hr
  refine r_aload_n dX12_keeps_0 rfl 0 rfl (nl rfl) ?_
  obtain ⟨h1, hg1, hr⟩ := bnd hr
  refine k_V (ci := 12) (o := a0) (T := TX12) (as := []) (rest := []) (X := (none, h1)) (oX12_tries hg1) gX12_tries rfl (by decide) rfl (wsl_49 _ (List.mem_of_getElem? (i := 21) rfl)) rfl dX12_keeps_1 rfl ?_
  refine r_aload_n dX12_keeps_4 rfl 0 rfl (nl rfl) ?_
  refine r_aload_n dX12_keeps_5 rfl 0 rfl (nl rfl) ?_
  refine r_get 12 45 (o := a0) (w := (50, h1 a0 45)) (T := TX12) (ref := "FollowingRefsModel") rfl (by decide) rfl (by decide) inlX12 (wsl_8 _ (List.mem_of_getElem? (i := 3) rfl)) rfl dX12_keeps_6 rfl ?_
  obtain ⟨h9, hg9, hr⟩ := bnd hr
  refine k_V (ci := 12) (o := a0) (T := TX12) (as := [(50, h1 a0 45)]) (rest := []) (X := (none, h9)) (oX12_stores hg9) gX12_stores rfl (by decide) rfl (wsl_46 _ (List.mem_of_getElem? (i := 18) rfl)) rfl dX12_keeps_9 rfl ?_
  obtain rfl := Option.some.inj hr
  exact r_vret dX12_keeps_12 rfl (k0 _ hk) ⟨rfl, rfl⟩
end M_X12_keeps
theorem oX12_keeps {l : Launch} {D : va_G} {G : gG} {h : hH} {a0 : Int} {r : hH} (hr : fX12_keeps h a0 = some r) : Ctr l D G true yX12_keeps M_X12_keeps [(22, a0)] h (none, r) :=
  Ctr_of (by decide) rfl (fun z => by cases z) (nl rfl) (fun {p e R s m args below meth c A H0} => by
    exact oX12_keeps_b0 (K := fun z9 => z9 = r) (fun r9 z => by rw [z]) hr rfl)
/-! X12_begins -/
theorem dX12_begins_0 : decode cX12_begins 0 = .ok (.aload_n 0, 1) := by decide +kernel
theorem dX12_begins_1 : decode cX12_begins 1 = .ok (.getfield 33, 3) := by decide +kernel
theorem dX12_begins_4 : decode cX12_begins 4 = .ok (.sipush 149, 3) := by decide +kernel
theorem dX12_begins_7 : decode cX12_begins 7 = .ok (.iconst 1, 1) := by decide +kernel
theorem dX12_begins_8 : decode cX12_begins 8 = .ok (.iastore, 1) := by decide +kernel
theorem dX12_begins_9 : decode cX12_begins 9 = .ok (.iconst 0, 1) := by decide +kernel
theorem dX12_begins_10 : decode cX12_begins 10 = .ok (.istore_n 1, 1) := by decide +kernel
theorem dX12_begins_11 : decode cX12_begins 11 = .ok (.iload_n 1, 1) := by decide +kernel
theorem dX12_begins_12 : decode cX12_begins 12 = .ok (.bipush 99, 2) := by decide +kernel
theorem dX12_begins_14 : decode cX12_begins 14 = .ok (.if_icmp .ge 29, 3) := by decide +kernel
theorem dX12_begins_17 : decode cX12_begins 17 = .ok (.aload_n 0, 1) := by decide +kernel
theorem dX12_begins_18 : decode cX12_begins 18 = .ok (.getfield 33, 3) := by decide +kernel
theorem dX12_begins_21 : decode cX12_begins 21 = .ok (.sipush 744, 3) := by decide +kernel
theorem dX12_begins_24 : decode cX12_begins 24 = .ok (.iload_n 1, 1) := by decide +kernel
theorem dX12_begins_25 : decode cX12_begins 25 = .ok (.iadd, 1) := by decide +kernel
theorem dX12_begins_26 : decode cX12_begins 26 = .ok (.aload_n 0, 1) := by decide +kernel
theorem dX12_begins_27 : decode cX12_begins 27 = .ok (.getfield 33, 3) := by decide +kernel
theorem dX12_begins_30 : decode cX12_begins 30 = .ok (.sipush 150, 3) := by decide +kernel
theorem dX12_begins_33 : decode cX12_begins 33 = .ok (.iload_n 1, 1) := by decide +kernel
theorem dX12_begins_34 : decode cX12_begins 34 = .ok (.iadd, 1) := by decide +kernel
theorem dX12_begins_35 : decode cX12_begins 35 = .ok (.iaload, 1) := by decide +kernel
theorem dX12_begins_36 : decode cX12_begins 36 = .ok (.iastore, 1) := by decide +kernel
theorem dX12_begins_37 : decode cX12_begins 37 = .ok (.iinc 1 1, 3) := by decide +kernel
theorem dX12_begins_40 : decode cX12_begins 40 = .ok (.goto (-29), 3) := by decide +kernel
theorem dX12_begins_43 : decode cX12_begins 43 = .ok (.iconst 0, 1) := by decide +kernel
theorem dX12_begins_44 : decode cX12_begins 44 = .ok (.istore_n 1, 1) := by decide +kernel
theorem dX12_begins_45 : decode cX12_begins 45 = .ok (.iload_n 1, 1) := by decide +kernel
theorem dX12_begins_46 : decode cX12_begins 46 = .ok (.sipush 396, 3) := by decide +kernel
theorem dX12_begins_49 : decode cX12_begins 49 = .ok (.if_icmp .ge 29, 3) := by decide +kernel
theorem dX12_begins_52 : decode cX12_begins 52 = .ok (.aload_n 0, 1) := by decide +kernel
theorem dX12_begins_53 : decode cX12_begins 53 = .ok (.getfield 33, 3) := by decide +kernel
theorem dX12_begins_56 : decode cX12_begins 56 = .ok (.sipush 843, 3) := by decide +kernel
theorem dX12_begins_59 : decode cX12_begins 59 = .ok (.iload_n 1, 1) := by decide +kernel
theorem dX12_begins_60 : decode cX12_begins 60 = .ok (.iadd, 1) := by decide +kernel
theorem dX12_begins_61 : decode cX12_begins 61 = .ok (.aload_n 0, 1) := by decide +kernel
theorem dX12_begins_62 : decode cX12_begins 62 = .ok (.getfield 33, 3) := by decide +kernel
theorem dX12_begins_65 : decode cX12_begins 65 = .ok (.sipush 348, 3) := by decide +kernel
theorem dX12_begins_68 : decode cX12_begins 68 = .ok (.iload_n 1, 1) := by decide +kernel
theorem dX12_begins_69 : decode cX12_begins 69 = .ok (.iadd, 1) := by decide +kernel
theorem dX12_begins_70 : decode cX12_begins 70 = .ok (.iaload, 1) := by decide +kernel
theorem dX12_begins_71 : decode cX12_begins 71 = .ok (.iastore, 1) := by decide +kernel
theorem dX12_begins_72 : decode cX12_begins 72 = .ok (.iinc 1 1, 3) := by decide +kernel
theorem dX12_begins_75 : decode cX12_begins 75 = .ok (.goto (-30), 3) := by decide +kernel
theorem dX12_begins_78 : decode cX12_begins 78 = .ok (.return_, 1) := by decide +kernel
abbrev M_X12_begins : mM := (cX12_begins, 2, RX12, none, false, 0, 0, 0, 0)
theorem gX12_begins : cI yX12_begins M_X12_begins 0 := ⟨(wsl_50 _ (List.mem_of_getElem? (i := 2) rfl)), (wsl_50 _ (List.mem_of_getElem? (i := 3) rfl)), (wsl_1 _ (List.mem_of_getElem? (i := 5) rfl)), (wsl_50 _ (List.mem_of_getElem? (i := 4) rfl)), by decide +kernel⟩
noncomputable def fX12_begins_s45 (h0 : hH) (a0 : Int) : hH × Int → Option ((hH × Int) ⊕ (hH)) := fun (h, l1) =>
  if l1 < 396 then
    (aget h (h a0 6) (w32 (348 + l1))).bind fun v70 =>
    (aput h (h a0 6) (w32 (843 + l1)) v70).bind fun h71 =>
    some (.inl (h71, w32 (l1 + 1)))
  else
    some (.inr (h))
noncomputable def fX12_begins_s11 (h0 : hH) (a0 : Int) : hH × Int → Option ((hH × Int) ⊕ (hH)) := fun (h, l1) =>
  if l1 < 99 then
    (aget h (h a0 6) (w32 (150 + l1))).bind fun v35 =>
    (aput h (h a0 6) (w32 (744 + l1)) v35).bind fun h36 =>
    some (.inl (h36, w32 (l1 + 1)))
  else
    (lpO (fX12_begins_s45 h a0) (h, 0)).map (fun z9 => .inr (z9))
noncomputable def fX12_begins (h : hH) (a0 : Int) : Option (hH) :=
  (aput h (h a0 6) 149 1).bind fun h8 =>
  lpO (fX12_begins_s11 h8 a0) (h8, 0)
section M_X12_begins
variable {p : Program} {l : Launch} {e : Env} {R : Room} {s : State} {m : MethodId} {args : Array Value} {below : List Frame} {meth : Method} {c : Code} {D : va_G} {G : gG} {A : Nat → Prop} {H0 : Heap} {n0 : Int} {x : Option vV × hH} {h : hH}
set_option maxRecDepth 100000 in
set_option maxHeartbeats 4000000 in
theorem oX12_begins_s45 {h0 : hH} {a0 l1 : Int} {K : (hH × Int) ⊕ (hH) → Prop} (k0 : ∀ r, K (.inr (r)) → x = (none, r)) (k1 : ∀ (h : hH) (l1 : Int), K (.inl (h, l1)) → Wq p l e R s m args below meth c D G A H0 true n0 M_X12_begins x 0 0 45 [(0, (22, a0)), (1, (0, l1))] [] h) {r : (hH × Int) ⊕ (hH)} (hr : fX12_begins_s45 h0 a0 (h, l1) = some r) (hk : K r) : Wq p l e R s m args below meth c D G A H0 true n0 M_X12_begins x 0 0 45 [(0, (22, a0)), (1, (0, l1))] [] h := by
  unfold fX12_begins_s45 at hr
  refine r_iload_n dX12_begins_45 rfl 1 rfl (Or.inl rfl) ?_
  refine r_sipush dX12_begins_46 (by decide) (by decide) ?_
  refine r_icmp_ge dX12_begins_49 (tgt := 78) (by decide) (fun hc => ?_) (fun hc => ?_)
  · have hr := ifn hr hc
    obtain rfl := Option.some.inj hr
    exact r_vret dX12_begins_78 rfl (k0 _ hk) ⟨rfl, rfl⟩
  · have hr := ifp hr hc
    refine r_aload_n dX12_begins_52 rfl 0 rfl (nl rfl) ?_
    refine r_get 12 6 (o := a0) (w := (50, h a0 6)) (T := TX12) (ref := "FollowingRefsModel") rfl (by decide) rfl (by decide) inlX12 (wsl_7 _ (List.mem_of_getElem? (i := 8) rfl)) rfl dX12_begins_53 rfl ?_
    refine r_sipush dX12_begins_56 (by decide) (by decide) ?_
    refine r_iload_n dX12_begins_59 rfl 1 rfl (Or.inl rfl) ?_
    refine r_iadd dX12_begins_60 ?_
    refine r_aload_n dX12_begins_61 rfl 0 rfl (nl rfl) ?_
    refine r_get 12 6 (o := a0) (w := (50, h a0 6)) (T := TX12) (ref := "FollowingRefsModel") rfl (by decide) rfl (by decide) inlX12 (wsl_7 _ (List.mem_of_getElem? (i := 8) rfl)) rfl dX12_begins_62 rfl ?_
    refine r_sipush dX12_begins_65 (by decide) (by decide) ?_
    refine r_iload_n dX12_begins_68 rfl 1 rfl (Or.inl rfl) ?_
    refine r_iadd dX12_begins_69 ?_
    obtain ⟨v70, hg70, hr⟩ := bnd hr
    refine r_iald dX12_begins_70 hg70 ?_
    obtain ⟨h71, hg71, hr⟩ := bnd hr
    refine r_iast dX12_begins_71 hg71 ?_
    refine r_iinc (k := 1) (v := l1) dX12_begins_72 rfl (by decide) (lv' := [(1, (0, w32 (l1 + 1))), (0, (22, a0))]) rfl ?_
    refine r_goto dX12_begins_75 (tgt := 45) (by decide) ?_
    refine r_sub [1, 0] (lv' := [(0, (22, a0)), (1, (0, w32 (l1 + 1)))]) rfl ?_
    obtain rfl := Option.some.inj hr
    exact k1 _ _ hk
set_option maxRecDepth 100000 in
set_option maxHeartbeats 4000000 in
theorem oX12_begins_s11 {h0 : hH} {a0 l1 : Int} {K : (hH × Int) ⊕ (hH) → Prop} (k0 : ∀ r, K (.inr (r)) → x = (none, r)) (k1 : ∀ (h : hH) (l1 : Int), K (.inl (h, l1)) → Wq p l e R s m args below meth c D G A H0 true n0 M_X12_begins x 0 0 11 [(0, (22, a0)), (1, (0, l1))] [] h) {r : (hH × Int) ⊕ (hH)} (hr : fX12_begins_s11 h0 a0 (h, l1) = some r) (hk : K r) : Wq p l e R s m args below meth c D G A H0 true n0 M_X12_begins x 0 0 11 [(0, (22, a0)), (1, (0, l1))] [] h := by
  unfold fX12_begins_s11 at hr
  refine r_iload_n dX12_begins_11 rfl 1 rfl (Or.inl rfl) ?_
  refine r_bipush dX12_begins_12 (by decide) (by decide) ?_
  refine r_icmp_ge dX12_begins_14 (tgt := 43) (by decide) (fun hc => ?_) (fun hc => ?_)
  · have hr := ifn hr hc
    refine r_iconst dX12_begins_43 (by decide) ?_
    refine r_istore_n dX12_begins_44 rfl (Or.inl rfl) (by decide) (lv' := [(1, (0, 0)), (0, (22, a0))]) rfl ?_
    refine r_sub [1, 0] (lv' := [(0, (22, a0)), (1, (0, 0))]) rfl ?_
    obtain ⟨r9, hr9, rfl⟩ := mpp hr
    exact lp_ok (w := fun (q : hH × Int) => Wq p l e R s m args below meth c D G A H0 true n0 M_X12_begins x 0 0 45 [(0, (22, a0)), (1, (0, q.2))] [] (q.1)) (K := fun z9 => K (.inr (z9))) (fun ⟨q0, q1⟩ r h1 h2 => oX12_begins_s45 (K := Sum.elim (fun (q : hH × Int) => Wq p l e R s m args below meth c D G A H0 true n0 M_X12_begins x 0 0 45 [(0, (22, a0)), (1, (0, q.2))] [] (q.1)) (fun z9 => K (.inr (z9)))) (fun r z => k0 r z) (fun _ _ z => z) h1 h2) hr9 hk
  · have hr := ifp hr hc
    refine r_aload_n dX12_begins_17 rfl 0 rfl (nl rfl) ?_
    refine r_get 12 6 (o := a0) (w := (50, h a0 6)) (T := TX12) (ref := "FollowingRefsModel") rfl (by decide) rfl (by decide) inlX12 (wsl_7 _ (List.mem_of_getElem? (i := 8) rfl)) rfl dX12_begins_18 rfl ?_
    refine r_sipush dX12_begins_21 (by decide) (by decide) ?_
    refine r_iload_n dX12_begins_24 rfl 1 rfl (Or.inl rfl) ?_
    refine r_iadd dX12_begins_25 ?_
    refine r_aload_n dX12_begins_26 rfl 0 rfl (nl rfl) ?_
    refine r_get 12 6 (o := a0) (w := (50, h a0 6)) (T := TX12) (ref := "FollowingRefsModel") rfl (by decide) rfl (by decide) inlX12 (wsl_7 _ (List.mem_of_getElem? (i := 8) rfl)) rfl dX12_begins_27 rfl ?_
    refine r_sipush dX12_begins_30 (by decide) (by decide) ?_
    refine r_iload_n dX12_begins_33 rfl 1 rfl (Or.inl rfl) ?_
    refine r_iadd dX12_begins_34 ?_
    obtain ⟨v35, hg35, hr⟩ := bnd hr
    refine r_iald dX12_begins_35 hg35 ?_
    obtain ⟨h36, hg36, hr⟩ := bnd hr
    refine r_iast dX12_begins_36 hg36 ?_
    refine r_iinc (k := 1) (v := l1) dX12_begins_37 rfl (by decide) (lv' := [(1, (0, w32 (l1 + 1))), (0, (22, a0))]) rfl ?_
    refine r_goto dX12_begins_40 (tgt := 11) (by decide) ?_
    refine r_sub [1, 0] (lv' := [(0, (22, a0)), (1, (0, w32 (l1 + 1)))]) rfl ?_
    obtain rfl := Option.some.inj hr
    exact k1 _ _ hk
set_option maxRecDepth 100000 in
set_option maxHeartbeats 4000000 in
theorem oX12_begins_b0 {a0 : Int} {K : hH → Prop} (k0 : ∀ r, K (r) → x = (none, r)) {r : hH} (hr : fX12_begins h a0 = some r) (hk : K r) : Wq p l e R s m args below meth c D G A H0 true n0 M_X12_begins x 0 0 0 [(0, (22, a0))] [] h := by
  unfold fX12_begins at hr
  refine r_aload_n dX12_begins_0 rfl 0 rfl (nl rfl) ?_
  refine r_get 12 6 (o := a0) (w := (50, h a0 6)) (T := TX12) (ref := "FollowingRefsModel") rfl (by decide) rfl (by decide) inlX12 (wsl_7 _ (List.mem_of_getElem? (i := 8) rfl)) rfl dX12_begins_1 rfl ?_
  refine r_sipush dX12_begins_4 (by decide) (by decide) ?_
  refine r_iconst dX12_begins_7 (by decide) ?_
  obtain ⟨h8, hg8, hr⟩ := bnd hr
  refine r_iast dX12_begins_8 hg8 ?_
  refine r_iconst dX12_begins_9 (by decide) ?_
  refine r_istore_n dX12_begins_10 rfl (Or.inl rfl) (by decide) (lv' := [(1, (0, 0)), (0, (22, a0))]) rfl ?_
  refine r_sub [1, 0] (lv' := [(0, (22, a0)), (1, (0, 0))]) rfl ?_
  exact lp_ok (w := fun (q : hH × Int) => Wq p l e R s m args below meth c D G A H0 true n0 M_X12_begins x 0 0 11 [(0, (22, a0)), (1, (0, q.2))] [] (q.1)) (K := K) (fun ⟨q0, q1⟩ r h1 h2 => oX12_begins_s11 (K := Sum.elim (fun (q : hH × Int) => Wq p l e R s m args below meth c D G A H0 true n0 M_X12_begins x 0 0 11 [(0, (22, a0)), (1, (0, q.2))] [] (q.1)) (K)) (fun r z => k0 r z) (fun _ _ z => z) h1 h2) hr hk
end M_X12_begins
theorem oX12_begins {l : Launch} {D : va_G} {G : gG} {h : hH} {a0 : Int} {r : hH} (hr : fX12_begins h a0 = some r) : Ctr l D G true yX12_begins M_X12_begins [(22, a0)] h (none, r) :=
  Ctr_of (by decide) rfl (fun z => by cases z) (nl rfl) (fun {p e R s m args below meth c A H0} => by
    exact oX12_begins_b0 (K := fun z9 => z9 = r) (fun r9 z => by rw [z]) hr rfl)
/-! X12_begin -/
theorem dX12_begin_0 : decode cX12_begin 0 = .ok (.aload_n 0, 1) := by decide +kernel
theorem dX12_begin_1 : decode cX12_begin 1 = .ok (.iconst 0, 1) := by decide +kernel
theorem dX12_begin_2 : decode cX12_begin 2 = .ok (.putfield 1, 3) := by decide +kernel
theorem dX12_begin_5 : decode cX12_begin 5 = .ok (.aload_n 0, 1) := by decide +kernel
theorem dX12_begin_6 : decode cX12_begin 6 = .ok (.getfield 33, 3) := by decide +kernel
theorem dX12_begin_9 : decode cX12_begin 9 = .ok (.sipush 149, 3) := by decide +kernel
theorem dX12_begin_12 : decode cX12_begin 12 = .ok (.iaload, 1) := by decide +kernel
theorem dX12_begin_13 : decode cX12_begin 13 = .ok (.iconst 1, 1) := by decide +kernel
theorem dX12_begin_14 : decode cX12_begin 14 = .ok (.if_icmp .ne 5, 3) := by decide +kernel
theorem dX12_begin_17 : decode cX12_begin 17 = .ok (.iconst 1, 1) := by decide +kernel
theorem dX12_begin_18 : decode cX12_begin 18 = .ok (.ireturn, 1) := by decide +kernel
theorem dX12_begin_19 : decode cX12_begin 19 = .ok (.aload_n 0, 1) := by decide +kernel
theorem dX12_begin_20 : decode cX12_begin 20 = .ok (.invokevirtual 462, 3) := by decide +kernel
theorem dX12_begin_23 : decode cX12_begin 23 = .ok (.aload_n 0, 1) := by decide +kernel
theorem dX12_begin_24 : decode cX12_begin 24 = .ok (.invokevirtual 465, 3) := by decide +kernel
theorem dX12_begin_27 : decode cX12_begin 27 = .ok (.iconst 0, 1) := by decide +kernel
theorem dX12_begin_28 : decode cX12_begin 28 = .ok (.ireturn, 1) := by decide +kernel
abbrev M_X12_begin : mM := (cX12_begin, 1, RX12, some .int, false, 2, 42, 0, 0)
theorem gX12_begin : cI yX12_begin M_X12_begin 0 := ⟨(wsl_49 _ (List.mem_of_getElem? (i := 14) rfl)), (wsl_49 _ (List.mem_of_getElem? (i := 15) rfl)), (wsl_1 _ (List.mem_of_getElem? (i := 5) rfl)), (wsl_49 _ (List.mem_of_getElem? (i := 16) rfl)), by decide +kernel⟩
noncomputable def fX12_begin (h : hH) (a0 : Int) : Option (Int × hH) :=
  (pput h a0 0 0).bind fun h2 =>
  (aget h2 (h2 a0 6) 149).bind fun v12 =>
  if v12 = 1 then
    some (1, h2)
  else
    (fX12_keeps h2 a0).bind fun h20 =>
    (fX12_begins h20 a0).bind fun h24 =>
    some (0, h24)
section M_X12_begin
variable {p : Program} {l : Launch} {e : Env} {R : Room} {s : State} {m : MethodId} {args : Array Value} {below : List Frame} {meth : Method} {c : Code} {D : va_G} {G : gG} {A : Nat → Prop} {H0 : Heap} {n0 : Int} {x : Option vV × hH} {h : hH}
set_option maxRecDepth 100000 in
set_option maxHeartbeats 4000000 in
theorem oX12_begin_b0 {a0 : Int} {K : Int × hH → Prop} (k0 : ∀ r, K (r) → x = (some (0, r.1), r.2)) {r : Int × hH} (hr : fX12_begin h a0 = some r) (hk : K r) : Wq p l e R s m args below meth c D G A H0 true n0 M_X12_begin x 0 0 0 [(0, (22, a0))] [] h := by
  unfold fX12_begin at hr
  refine r_aload_n dX12_begin_0 rfl 0 rfl (nl rfl) ?_
  refine r_iconst dX12_begin_1 (by decide) ?_
  obtain ⟨h2, hg2, hr⟩ := bnd hr
  refine r_put' 12 0 (t := 0) (ref := "FollowingRefsModel") hg2 rfl tyX12 tyX12_ok nmX12 rfl (by decide) rfl (by decide) inlX12 (wsl_10 _ (List.mem_of_getElem? (i := 11) rfl)) rfl rfl (by decide +kernel) (by decide) rfl (Or.inl ⟨rfl, rfl⟩) dX12_begin_2 ?_
  refine r_aload_n dX12_begin_5 rfl 0 rfl (nl rfl) ?_
  refine r_get 12 6 (o := a0) (w := (50, h2 a0 6)) (T := TX12) (ref := "FollowingRefsModel") rfl (by decide) rfl (by decide) inlX12 (wsl_7 _ (List.mem_of_getElem? (i := 8) rfl)) rfl dX12_begin_6 rfl ?_
  refine r_sipush dX12_begin_9 (by decide) (by decide) ?_
  obtain ⟨v12, hg12, hr⟩ := bnd hr
  refine r_iald dX12_begin_12 hg12 ?_
  refine r_iconst dX12_begin_13 (by decide) ?_
  refine r_icmp_ne dX12_begin_14 (tgt := 19) (by decide) (fun hc => ?_) (fun hc => ?_)
  · have hr := ifn hr hc
    refine r_aload_n dX12_begin_19 rfl 0 rfl (nl rfl) ?_
    obtain ⟨h20, hg20, hr⟩ := bnd hr
    refine k_V (ci := 12) (o := a0) (T := TX12) (as := []) (rest := []) (X := (none, h20)) (oX12_keeps hg20) gX12_keeps rfl (by decide) rfl (wsl_49 _ (List.mem_of_getElem? (i := 17) rfl)) rfl dX12_begin_20 rfl ?_
    refine r_aload_n dX12_begin_23 rfl 0 rfl (nl rfl) ?_
    obtain ⟨h24, hg24, hr⟩ := bnd hr
    refine k_V (ci := 12) (o := a0) (T := TX12) (as := []) (rest := []) (X := (none, h24)) (oX12_begins hg24) gX12_begins rfl (by decide) rfl (wsl_50 _ (List.mem_of_getElem? (i := 1) rfl)) rfl dX12_begin_24 rfl ?_
    refine r_iconst dX12_begin_27 (by decide) ?_
    obtain rfl := Option.some.inj hr
    exact r_ret dX12_begin_28 rfl (Or.inl ⟨rfl, rfl⟩) (k0 _ hk) ⟨rfl, rfl⟩
  · have hr := ifp hr hc
    refine r_iconst dX12_begin_17 (by decide) ?_
    obtain rfl := Option.some.inj hr
    exact r_ret dX12_begin_18 rfl (Or.inl ⟨rfl, rfl⟩) (k0 _ hk) ⟨rfl, rfl⟩
end M_X12_begin
theorem oX12_begin {l : Launch} {D : va_G} {G : gG} {h : hH} {a0 : Int} {r : Int × hH} (hr : fX12_begin h a0 = some r) : Ctr l D G true yX12_begin M_X12_begin [(22, a0)] h (some (0, r.1), r.2) :=
  Ctr_of (by decide) rfl (fun z => by cases z) (nl rfl) (fun {p e R s m args below meth c A H0} => by
    exact oX12_begin_b0 (K := fun z9 => z9 = r) (fun r9 z => by rw [z]) hr rfl)
/-! X12_whyCommit -/
theorem dX12_whyCommit_0 : decode cX12_whyCommit 0 = .ok (.aload_n 0, 1) := by decide +kernel
theorem dX12_whyCommit_1 : decode cX12_whyCommit 1 = .ok (.getfield 33, 3) := by decide +kernel
theorem dX12_whyCommit_4 : decode cX12_whyCommit 4 = .ok (.sipush 149, 3) := by decide +kernel
theorem dX12_whyCommit_7 : decode cX12_whyCommit 7 = .ok (.iaload, 1) := by decide +kernel
theorem dX12_whyCommit_8 : decode cX12_whyCommit 8 = .ok (.ifCond .ne 5, 3) := by decide +kernel
theorem dX12_whyCommit_11 : decode cX12_whyCommit 11 = .ok (.iconst 1, 1) := by decide +kernel
theorem dX12_whyCommit_12 : decode cX12_whyCommit 12 = .ok (.ireturn, 1) := by decide +kernel
theorem dX12_whyCommit_13 : decode cX12_whyCommit 13 = .ok (.aload_n 0, 1) := by decide +kernel
theorem dX12_whyCommit_14 : decode cX12_whyCommit 14 = .ok (.iconst 1, 1) := by decide +kernel
theorem dX12_whyCommit_15 : decode cX12_whyCommit 15 = .ok (.invokevirtual 432, 3) := by decide +kernel
theorem dX12_whyCommit_18 : decode cX12_whyCommit 18 = .ok (.aload_n 0, 1) := by decide +kernel
theorem dX12_whyCommit_19 : decode cX12_whyCommit 19 = .ok (.getfield 327, 3) := by decide +kernel
theorem dX12_whyCommit_22 : decode cX12_whyCommit 22 = .ok (.ifCond .le 7, 3) := by decide +kernel
theorem dX12_whyCommit_25 : decode cX12_whyCommit 25 = .ok (.iconst 2, 1) := by decide +kernel
theorem dX12_whyCommit_26 : decode cX12_whyCommit 26 = .ok (.goto 4, 3) := by decide +kernel
theorem dX12_whyCommit_29 : decode cX12_whyCommit 29 = .ok (.iconst 0, 1) := by decide +kernel
theorem dX12_whyCommit_30 : decode cX12_whyCommit 30 = .ok (.ireturn, 1) := by decide +kernel
abbrev M_X12_whyCommit : mM := (cX12_whyCommit, 1, RX12, some .int, false, 5, 119, 0, 0)
theorem gX12_whyCommit : cI yX12_whyCommit M_X12_whyCommit 0 := ⟨(wsl_50 _ (List.mem_of_getElem? (i := 16) rfl)), (wsl_50 _ (List.mem_of_getElem? (i := 17) rfl)), (wsl_1 _ (List.mem_of_getElem? (i := 5) rfl)), (wsl_50 _ (List.mem_of_getElem? (i := 18) rfl)), by decide +kernel⟩
noncomputable def fX12_whyCommit (h : hH) (a0 : Int) : Option (Int × hH) :=
  (aget h (h a0 6) 149).bind fun v7 =>
  if v7 = 0 then
    some (1, h)
  else
    (fX12_judgesAll h a0 1).bind fun h15 =>
    if 0 < h15 a0 26 then
      some (2, h15)
    else
      some (0, h15)
section M_X12_whyCommit
variable {p : Program} {l : Launch} {e : Env} {R : Room} {s : State} {m : MethodId} {args : Array Value} {below : List Frame} {meth : Method} {c : Code} {D : va_G} {G : gG} {A : Nat → Prop} {H0 : Heap} {n0 : Int} {x : Option vV × hH} {h : hH}
set_option maxRecDepth 100000 in
set_option maxHeartbeats 4000000 in
theorem oX12_whyCommit_b0 {a0 : Int} {K : Int × hH → Prop} (k0 : ∀ r, K (r) → x = (some (0, r.1), r.2)) {r : Int × hH} (hr : fX12_whyCommit h a0 = some r) (hk : K r) : Wq p l e R s m args below meth c D G A H0 true n0 M_X12_whyCommit x 0 0 0 [(0, (22, a0))] [] h := by
  unfold fX12_whyCommit at hr
  refine r_aload_n dX12_whyCommit_0 rfl 0 rfl (nl rfl) ?_
  refine r_get 12 6 (o := a0) (w := (50, h a0 6)) (T := TX12) (ref := "FollowingRefsModel") rfl (by decide) rfl (by decide) inlX12 (wsl_7 _ (List.mem_of_getElem? (i := 8) rfl)) rfl dX12_whyCommit_1 rfl ?_
  refine r_sipush dX12_whyCommit_4 (by decide) (by decide) ?_
  obtain ⟨v7, hg7, hr⟩ := bnd hr
  refine r_iald dX12_whyCommit_7 hg7 ?_
  refine r_if_ne dX12_whyCommit_8 (tgt := 13) (by decide) (fun hc => ?_) (fun hc => ?_)
  · have hr := ifn hr hc
    refine r_aload_n dX12_whyCommit_13 rfl 0 rfl (nl rfl) ?_
    refine r_iconst dX12_whyCommit_14 (by decide) ?_
    refine r_scast 0 (v := (0, 1)) (w := (2, 1)) rfl cz (fun _ => Or.inr rfl) (st' := [(2, 1), (22, a0)]) rfl ?_
    obtain ⟨h15, hg15, hr⟩ := bnd hr
    refine k_V (ci := 12) (o := a0) (T := TX12) (as := [(2, 1)]) (rest := []) (X := (none, h15)) (oX12_judgesAll hg15) gX12_judgesAll rfl (by decide) rfl (wsl_45 _ (List.mem_of_getElem? (i := 8) rfl)) rfl dX12_whyCommit_15 rfl ?_
    refine r_aload_n dX12_whyCommit_18 rfl 0 rfl (nl rfl) ?_
    refine r_get 12 26 (o := a0) (w := (0, h15 a0 26)) (T := TX12) (ref := "FollowingRefsModel") rfl (by decide) rfl (by decide) inlX12 (wsl_42 _ (List.mem_of_getElem? (i := 7) rfl)) rfl dX12_whyCommit_19 rfl ?_
    refine r_if_le dX12_whyCommit_22 (tgt := 29) (by decide) (fun hc => ?_) (fun hc => ?_)
    · have hr := ifn hr hc
      refine r_iconst dX12_whyCommit_29 (by decide) ?_
      obtain rfl := Option.some.inj hr
      exact r_ret dX12_whyCommit_30 rfl (Or.inl ⟨rfl, rfl⟩) (k0 _ hk) ⟨rfl, rfl⟩
    · have hr := ifp hr hc
      refine r_iconst dX12_whyCommit_25 (by decide) ?_
      refine r_goto dX12_whyCommit_26 (tgt := 30) (by decide) ?_
      obtain rfl := Option.some.inj hr
      exact r_ret dX12_whyCommit_30 rfl (Or.inl ⟨rfl, rfl⟩) (k0 _ hk) ⟨rfl, rfl⟩
  · have hr := ifp hr hc
    refine r_iconst dX12_whyCommit_11 (by decide) ?_
    obtain rfl := Option.some.inj hr
    exact r_ret dX12_whyCommit_12 rfl (Or.inl ⟨rfl, rfl⟩) (k0 _ hk) ⟨rfl, rfl⟩
end M_X12_whyCommit
theorem oX12_whyCommit {l : Launch} {D : va_G} {G : gG} {h : hH} {a0 : Int} {r : Int × hH} (hr : fX12_whyCommit h a0 = some r) : Ctr l D G true yX12_whyCommit M_X12_whyCommit [(22, a0)] h (some (0, r.1), r.2) :=
  Ctr_of (by decide) rfl (fun z => by cases z) (nl rfl) (fun {p e R s m args below meth c A H0} => by
    exact oX12_whyCommit_b0 (K := fun z9 => z9 = r) (fun r9 z => by rw [z]) hr rfl)
/-! X12_clears2 -/
theorem dX12_clears2_0 : decode cX12_clears2 0 = .ok (.iconst 0, 1) := by decide +kernel
theorem dX12_clears2_1 : decode cX12_clears2 1 = .ok (.istore_n 1, 1) := by decide +kernel
theorem dX12_clears2_2 : decode cX12_clears2 2 = .ok (.iload_n 1, 1) := by decide +kernel
theorem dX12_clears2_3 : decode cX12_clears2 3 = .ok (.bipush 99, 2) := by decide +kernel
theorem dX12_clears2_5 : decode cX12_clears2 5 = .ok (.if_icmp .ge 20, 3) := by decide +kernel
theorem dX12_clears2_8 : decode cX12_clears2 8 = .ok (.aload_n 0, 1) := by decide +kernel
theorem dX12_clears2_9 : decode cX12_clears2 9 = .ok (.getfield 33, 3) := by decide +kernel
theorem dX12_clears2_12 : decode cX12_clears2 12 = .ok (.sipush 744, 3) := by decide +kernel
theorem dX12_clears2_15 : decode cX12_clears2 15 = .ok (.iload_n 1, 1) := by decide +kernel
theorem dX12_clears2_16 : decode cX12_clears2 16 = .ok (.iadd, 1) := by decide +kernel
theorem dX12_clears2_17 : decode cX12_clears2 17 = .ok (.iconst 0, 1) := by decide +kernel
theorem dX12_clears2_18 : decode cX12_clears2 18 = .ok (.iastore, 1) := by decide +kernel
theorem dX12_clears2_19 : decode cX12_clears2 19 = .ok (.iinc 1 1, 3) := by decide +kernel
theorem dX12_clears2_22 : decode cX12_clears2 22 = .ok (.goto (-20), 3) := by decide +kernel
theorem dX12_clears2_25 : decode cX12_clears2 25 = .ok (.iconst 0, 1) := by decide +kernel
theorem dX12_clears2_26 : decode cX12_clears2 26 = .ok (.istore_n 1, 1) := by decide +kernel
theorem dX12_clears2_27 : decode cX12_clears2 27 = .ok (.iload_n 1, 1) := by decide +kernel
theorem dX12_clears2_28 : decode cX12_clears2 28 = .ok (.sipush 396, 3) := by decide +kernel
theorem dX12_clears2_31 : decode cX12_clears2 31 = .ok (.if_icmp .ge 20, 3) := by decide +kernel
theorem dX12_clears2_34 : decode cX12_clears2 34 = .ok (.aload_n 0, 1) := by decide +kernel
theorem dX12_clears2_35 : decode cX12_clears2 35 = .ok (.getfield 33, 3) := by decide +kernel
theorem dX12_clears2_38 : decode cX12_clears2 38 = .ok (.sipush 843, 3) := by decide +kernel
theorem dX12_clears2_41 : decode cX12_clears2 41 = .ok (.iload_n 1, 1) := by decide +kernel
theorem dX12_clears2_42 : decode cX12_clears2 42 = .ok (.iadd, 1) := by decide +kernel
theorem dX12_clears2_43 : decode cX12_clears2 43 = .ok (.iconst 0, 1) := by decide +kernel
theorem dX12_clears2_44 : decode cX12_clears2 44 = .ok (.iastore, 1) := by decide +kernel
theorem dX12_clears2_45 : decode cX12_clears2 45 = .ok (.iinc 1 1, 3) := by decide +kernel
theorem dX12_clears2_48 : decode cX12_clears2 48 = .ok (.goto (-21), 3) := by decide +kernel
theorem dX12_clears2_51 : decode cX12_clears2 51 = .ok (.return_, 1) := by decide +kernel
abbrev M_X12_clears2 : mM := (cX12_clears2, 2, RX12, none, false, 0, 0, 0, 0)
theorem gX12_clears2 : cI yX12_clears2 M_X12_clears2 0 := ⟨(wsl_51 _ (List.mem_of_getElem? (i := 0) rfl)), (wsl_51 _ (List.mem_of_getElem? (i := 1) rfl)), (wsl_1 _ (List.mem_of_getElem? (i := 5) rfl)), (wsl_51 _ (List.mem_of_getElem? (i := 2) rfl)), by decide +kernel⟩
noncomputable def fX12_clears2_s27 (h0 : hH) (a0 : Int) : hH × Int → Option ((hH × Int) ⊕ (hH)) := fun (h, l1) =>
  if l1 < 396 then
    (aput h (h a0 6) (w32 (843 + l1)) 0).bind fun h44 =>
    some (.inl (h44, w32 (l1 + 1)))
  else
    some (.inr (h))
noncomputable def fX12_clears2_s2 (h0 : hH) (a0 : Int) : hH × Int → Option ((hH × Int) ⊕ (hH)) := fun (h, l1) =>
  if l1 < 99 then
    (aput h (h a0 6) (w32 (744 + l1)) 0).bind fun h18 =>
    some (.inl (h18, w32 (l1 + 1)))
  else
    (lpO (fX12_clears2_s27 h a0) (h, 0)).map (fun z9 => .inr (z9))
noncomputable def fX12_clears2 (h : hH) (a0 : Int) : Option (hH) :=
  lpO (fX12_clears2_s2 h a0) (h, 0)
section M_X12_clears2
variable {p : Program} {l : Launch} {e : Env} {R : Room} {s : State} {m : MethodId} {args : Array Value} {below : List Frame} {meth : Method} {c : Code} {D : va_G} {G : gG} {A : Nat → Prop} {H0 : Heap} {n0 : Int} {x : Option vV × hH} {h : hH}
set_option maxRecDepth 100000 in
set_option maxHeartbeats 4000000 in
theorem oX12_clears2_s27 {h0 : hH} {a0 l1 : Int} {K : (hH × Int) ⊕ (hH) → Prop} (k0 : ∀ r, K (.inr (r)) → x = (none, r)) (k1 : ∀ (h : hH) (l1 : Int), K (.inl (h, l1)) → Wq p l e R s m args below meth c D G A H0 true n0 M_X12_clears2 x 0 0 27 [(0, (22, a0)), (1, (0, l1))] [] h) {r : (hH × Int) ⊕ (hH)} (hr : fX12_clears2_s27 h0 a0 (h, l1) = some r) (hk : K r) : Wq p l e R s m args below meth c D G A H0 true n0 M_X12_clears2 x 0 0 27 [(0, (22, a0)), (1, (0, l1))] [] h := by
  unfold fX12_clears2_s27 at hr
  refine r_iload_n dX12_clears2_27 rfl 1 rfl (Or.inl rfl) ?_
  refine r_sipush dX12_clears2_28 (by decide) (by decide) ?_
  refine r_icmp_ge dX12_clears2_31 (tgt := 51) (by decide) (fun hc => ?_) (fun hc => ?_)
  · have hr := ifn hr hc
    obtain rfl := Option.some.inj hr
    exact r_vret dX12_clears2_51 rfl (k0 _ hk) ⟨rfl, rfl⟩
  · have hr := ifp hr hc
    refine r_aload_n dX12_clears2_34 rfl 0 rfl (nl rfl) ?_
    refine r_get 12 6 (o := a0) (w := (50, h a0 6)) (T := TX12) (ref := "FollowingRefsModel") rfl (by decide) rfl (by decide) inlX12 (wsl_7 _ (List.mem_of_getElem? (i := 8) rfl)) rfl dX12_clears2_35 rfl ?_
    refine r_sipush dX12_clears2_38 (by decide) (by decide) ?_
    refine r_iload_n dX12_clears2_41 rfl 1 rfl (Or.inl rfl) ?_
    refine r_iadd dX12_clears2_42 ?_
    refine r_iconst dX12_clears2_43 (by decide) ?_
    obtain ⟨h44, hg44, hr⟩ := bnd hr
    refine r_iast dX12_clears2_44 hg44 ?_
    refine r_iinc (k := 1) (v := l1) dX12_clears2_45 rfl (by decide) (lv' := [(1, (0, w32 (l1 + 1))), (0, (22, a0))]) rfl ?_
    refine r_goto dX12_clears2_48 (tgt := 27) (by decide) ?_
    refine r_sub [1, 0] (lv' := [(0, (22, a0)), (1, (0, w32 (l1 + 1)))]) rfl ?_
    obtain rfl := Option.some.inj hr
    exact k1 _ _ hk
set_option maxRecDepth 100000 in
set_option maxHeartbeats 4000000 in
theorem oX12_clears2_s2 {h0 : hH} {a0 l1 : Int} {K : (hH × Int) ⊕ (hH) → Prop} (k0 : ∀ r, K (.inr (r)) → x = (none, r)) (k1 : ∀ (h : hH) (l1 : Int), K (.inl (h, l1)) → Wq p l e R s m args below meth c D G A H0 true n0 M_X12_clears2 x 0 0 2 [(0, (22, a0)), (1, (0, l1))] [] h) {r : (hH × Int) ⊕ (hH)} (hr : fX12_clears2_s2 h0 a0 (h, l1) = some r) (hk : K r) : Wq p l e R s m args below meth c D G A H0 true n0 M_X12_clears2 x 0 0 2 [(0, (22, a0)), (1, (0, l1))] [] h := by
  unfold fX12_clears2_s2 at hr
  refine r_iload_n dX12_clears2_2 rfl 1 rfl (Or.inl rfl) ?_
  refine r_bipush dX12_clears2_3 (by decide) (by decide) ?_
  refine r_icmp_ge dX12_clears2_5 (tgt := 25) (by decide) (fun hc => ?_) (fun hc => ?_)
  · have hr := ifn hr hc
    refine r_iconst dX12_clears2_25 (by decide) ?_
    refine r_istore_n dX12_clears2_26 rfl (Or.inl rfl) (by decide) (lv' := [(1, (0, 0)), (0, (22, a0))]) rfl ?_
    refine r_sub [1, 0] (lv' := [(0, (22, a0)), (1, (0, 0))]) rfl ?_
    obtain ⟨r9, hr9, rfl⟩ := mpp hr
    exact lp_ok (w := fun (q : hH × Int) => Wq p l e R s m args below meth c D G A H0 true n0 M_X12_clears2 x 0 0 27 [(0, (22, a0)), (1, (0, q.2))] [] (q.1)) (K := fun z9 => K (.inr (z9))) (fun ⟨q0, q1⟩ r h1 h2 => oX12_clears2_s27 (K := Sum.elim (fun (q : hH × Int) => Wq p l e R s m args below meth c D G A H0 true n0 M_X12_clears2 x 0 0 27 [(0, (22, a0)), (1, (0, q.2))] [] (q.1)) (fun z9 => K (.inr (z9)))) (fun r z => k0 r z) (fun _ _ z => z) h1 h2) hr9 hk
  · have hr := ifp hr hc
    refine r_aload_n dX12_clears2_8 rfl 0 rfl (nl rfl) ?_
    refine r_get 12 6 (o := a0) (w := (50, h a0 6)) (T := TX12) (ref := "FollowingRefsModel") rfl (by decide) rfl (by decide) inlX12 (wsl_7 _ (List.mem_of_getElem? (i := 8) rfl)) rfl dX12_clears2_9 rfl ?_
    refine r_sipush dX12_clears2_12 (by decide) (by decide) ?_
    refine r_iload_n dX12_clears2_15 rfl 1 rfl (Or.inl rfl) ?_
    refine r_iadd dX12_clears2_16 ?_
    refine r_iconst dX12_clears2_17 (by decide) ?_
    obtain ⟨h18, hg18, hr⟩ := bnd hr
    refine r_iast dX12_clears2_18 hg18 ?_
    refine r_iinc (k := 1) (v := l1) dX12_clears2_19 rfl (by decide) (lv' := [(1, (0, w32 (l1 + 1))), (0, (22, a0))]) rfl ?_
    refine r_goto dX12_clears2_22 (tgt := 2) (by decide) ?_
    refine r_sub [1, 0] (lv' := [(0, (22, a0)), (1, (0, w32 (l1 + 1)))]) rfl ?_
    obtain rfl := Option.some.inj hr
    exact k1 _ _ hk
set_option maxRecDepth 100000 in
set_option maxHeartbeats 4000000 in
theorem oX12_clears2_b0 {a0 : Int} {K : hH → Prop} (k0 : ∀ r, K (r) → x = (none, r)) {r : hH} (hr : fX12_clears2 h a0 = some r) (hk : K r) : Wq p l e R s m args below meth c D G A H0 true n0 M_X12_clears2 x 0 0 0 [(0, (22, a0))] [] h := by
  unfold fX12_clears2 at hr
  refine r_iconst dX12_clears2_0 (by decide) ?_
  refine r_istore_n dX12_clears2_1 rfl (Or.inl rfl) (by decide) (lv' := [(1, (0, 0)), (0, (22, a0))]) rfl ?_
  refine r_sub [1, 0] (lv' := [(0, (22, a0)), (1, (0, 0))]) rfl ?_
  exact lp_ok (w := fun (q : hH × Int) => Wq p l e R s m args below meth c D G A H0 true n0 M_X12_clears2 x 0 0 2 [(0, (22, a0)), (1, (0, q.2))] [] (q.1)) (K := K) (fun ⟨q0, q1⟩ r h1 h2 => oX12_clears2_s2 (K := Sum.elim (fun (q : hH × Int) => Wq p l e R s m args below meth c D G A H0 true n0 M_X12_clears2 x 0 0 2 [(0, (22, a0)), (1, (0, q.2))] [] (q.1)) (K)) (fun r z => k0 r z) (fun _ _ z => z) h1 h2) hr hk
end M_X12_clears2
theorem oX12_clears2 {l : Launch} {D : va_G} {G : gG} {h : hH} {a0 : Int} {r : hH} (hr : fX12_clears2 h a0 = some r) : Ctr l D G true yX12_clears2 M_X12_clears2 [(22, a0)] h (none, r) :=
  Ctr_of (by decide) rfl (fun z => by cases z) (nl rfl) (fun {p e R s m args below meth c A H0} => by
    exact oX12_clears2_b0 (K := fun z9 => z9 = r) (fun r9 z => by rw [z]) hr rfl)
/-! X12_backs -/
theorem dX12_backs_0 : decode cX12_backs 0 = .ok (.aload_n 0, 1) := by decide +kernel
theorem dX12_backs_1 : decode cX12_backs 1 = .ok (.getfield 33, 3) := by decide +kernel
theorem dX12_backs_4 : decode cX12_backs 4 = .ok (.sipush 149, 3) := by decide +kernel
theorem dX12_backs_7 : decode cX12_backs 7 = .ok (.iconst 0, 1) := by decide +kernel
theorem dX12_backs_8 : decode cX12_backs 8 = .ok (.iastore, 1) := by decide +kernel
theorem dX12_backs_9 : decode cX12_backs 9 = .ok (.iconst 0, 1) := by decide +kernel
theorem dX12_backs_10 : decode cX12_backs 10 = .ok (.istore_n 1, 1) := by decide +kernel
theorem dX12_backs_11 : decode cX12_backs 11 = .ok (.iload_n 1, 1) := by decide +kernel
theorem dX12_backs_12 : decode cX12_backs 12 = .ok (.bipush 99, 2) := by decide +kernel
theorem dX12_backs_14 : decode cX12_backs 14 = .ok (.if_icmp .ge 29, 3) := by decide +kernel
theorem dX12_backs_17 : decode cX12_backs 17 = .ok (.aload_n 0, 1) := by decide +kernel
theorem dX12_backs_18 : decode cX12_backs 18 = .ok (.getfield 33, 3) := by decide +kernel
theorem dX12_backs_21 : decode cX12_backs 21 = .ok (.sipush 150, 3) := by decide +kernel
theorem dX12_backs_24 : decode cX12_backs 24 = .ok (.iload_n 1, 1) := by decide +kernel
theorem dX12_backs_25 : decode cX12_backs 25 = .ok (.iadd, 1) := by decide +kernel
theorem dX12_backs_26 : decode cX12_backs 26 = .ok (.aload_n 0, 1) := by decide +kernel
theorem dX12_backs_27 : decode cX12_backs 27 = .ok (.getfield 33, 3) := by decide +kernel
theorem dX12_backs_30 : decode cX12_backs 30 = .ok (.sipush 744, 3) := by decide +kernel
theorem dX12_backs_33 : decode cX12_backs 33 = .ok (.iload_n 1, 1) := by decide +kernel
theorem dX12_backs_34 : decode cX12_backs 34 = .ok (.iadd, 1) := by decide +kernel
theorem dX12_backs_35 : decode cX12_backs 35 = .ok (.iaload, 1) := by decide +kernel
theorem dX12_backs_36 : decode cX12_backs 36 = .ok (.iastore, 1) := by decide +kernel
theorem dX12_backs_37 : decode cX12_backs 37 = .ok (.iinc 1 1, 3) := by decide +kernel
theorem dX12_backs_40 : decode cX12_backs 40 = .ok (.goto (-29), 3) := by decide +kernel
theorem dX12_backs_43 : decode cX12_backs 43 = .ok (.iconst 0, 1) := by decide +kernel
theorem dX12_backs_44 : decode cX12_backs 44 = .ok (.istore_n 1, 1) := by decide +kernel
theorem dX12_backs_45 : decode cX12_backs 45 = .ok (.iload_n 1, 1) := by decide +kernel
theorem dX12_backs_46 : decode cX12_backs 46 = .ok (.sipush 396, 3) := by decide +kernel
theorem dX12_backs_49 : decode cX12_backs 49 = .ok (.if_icmp .ge 29, 3) := by decide +kernel
theorem dX12_backs_52 : decode cX12_backs 52 = .ok (.aload_n 0, 1) := by decide +kernel
theorem dX12_backs_53 : decode cX12_backs 53 = .ok (.getfield 33, 3) := by decide +kernel
theorem dX12_backs_56 : decode cX12_backs 56 = .ok (.sipush 348, 3) := by decide +kernel
theorem dX12_backs_59 : decode cX12_backs 59 = .ok (.iload_n 1, 1) := by decide +kernel
theorem dX12_backs_60 : decode cX12_backs 60 = .ok (.iadd, 1) := by decide +kernel
theorem dX12_backs_61 : decode cX12_backs 61 = .ok (.aload_n 0, 1) := by decide +kernel
theorem dX12_backs_62 : decode cX12_backs 62 = .ok (.getfield 33, 3) := by decide +kernel
theorem dX12_backs_65 : decode cX12_backs 65 = .ok (.sipush 843, 3) := by decide +kernel
theorem dX12_backs_68 : decode cX12_backs 68 = .ok (.iload_n 1, 1) := by decide +kernel
theorem dX12_backs_69 : decode cX12_backs 69 = .ok (.iadd, 1) := by decide +kernel
theorem dX12_backs_70 : decode cX12_backs 70 = .ok (.iaload, 1) := by decide +kernel
theorem dX12_backs_71 : decode cX12_backs 71 = .ok (.iastore, 1) := by decide +kernel
theorem dX12_backs_72 : decode cX12_backs 72 = .ok (.iinc 1 1, 3) := by decide +kernel
theorem dX12_backs_75 : decode cX12_backs 75 = .ok (.goto (-30), 3) := by decide +kernel
theorem dX12_backs_78 : decode cX12_backs 78 = .ok (.aload_n 0, 1) := by decide +kernel
theorem dX12_backs_79 : decode cX12_backs 79 = .ok (.invokevirtual 468, 3) := by decide +kernel
theorem dX12_backs_82 : decode cX12_backs 82 = .ok (.return_, 1) := by decide +kernel
abbrev M_X12_backs : mM := (cX12_backs, 2, RX12, none, false, 1, 21, 0, 0)
theorem gX12_backs : cI yX12_backs M_X12_backs 0 := ⟨(wsl_51 _ (List.mem_of_getElem? (i := 17) rfl)), (wsl_51 _ (List.mem_of_getElem? (i := 18) rfl)), (wsl_1 _ (List.mem_of_getElem? (i := 5) rfl)), (wsl_51 _ (List.mem_of_getElem? (i := 19) rfl)), by decide +kernel⟩
noncomputable def fX12_backs_s45 (h0 : hH) (a0 : Int) : hH × Int → Option ((hH × Int) ⊕ (hH)) := fun (h, l1) =>
  if l1 < 396 then
    (aget h (h a0 6) (w32 (843 + l1))).bind fun v70 =>
    (aput h (h a0 6) (w32 (348 + l1)) v70).bind fun h71 =>
    some (.inl (h71, w32 (l1 + 1)))
  else
    (fX12_clears2 h a0).bind fun h79 =>
    some (.inr (h79))
noncomputable def fX12_backs_s11 (h0 : hH) (a0 : Int) : hH × Int → Option ((hH × Int) ⊕ (hH)) := fun (h, l1) =>
  if l1 < 99 then
    (aget h (h a0 6) (w32 (744 + l1))).bind fun v35 =>
    (aput h (h a0 6) (w32 (150 + l1)) v35).bind fun h36 =>
    some (.inl (h36, w32 (l1 + 1)))
  else
    (lpO (fX12_backs_s45 h a0) (h, 0)).map (fun z9 => .inr (z9))
noncomputable def fX12_backs (h : hH) (a0 : Int) : Option (hH) :=
  (aput h (h a0 6) 149 0).bind fun h8 =>
  lpO (fX12_backs_s11 h8 a0) (h8, 0)
section M_X12_backs
variable {p : Program} {l : Launch} {e : Env} {R : Room} {s : State} {m : MethodId} {args : Array Value} {below : List Frame} {meth : Method} {c : Code} {D : va_G} {G : gG} {A : Nat → Prop} {H0 : Heap} {n0 : Int} {x : Option vV × hH} {h : hH}
set_option maxRecDepth 100000 in
set_option maxHeartbeats 4000000 in
theorem oX12_backs_s45 {h0 : hH} {a0 l1 : Int} {K : (hH × Int) ⊕ (hH) → Prop} (k0 : ∀ r, K (.inr (r)) → x = (none, r)) (k1 : ∀ (h : hH) (l1 : Int), K (.inl (h, l1)) → Wq p l e R s m args below meth c D G A H0 true n0 M_X12_backs x 0 0 45 [(0, (22, a0)), (1, (0, l1))] [] h) {r : (hH × Int) ⊕ (hH)} (hr : fX12_backs_s45 h0 a0 (h, l1) = some r) (hk : K r) : Wq p l e R s m args below meth c D G A H0 true n0 M_X12_backs x 0 0 45 [(0, (22, a0)), (1, (0, l1))] [] h := by
  unfold fX12_backs_s45 at hr
  refine r_iload_n dX12_backs_45 rfl 1 rfl (Or.inl rfl) ?_
  refine r_sipush dX12_backs_46 (by decide) (by decide) ?_
  refine r_icmp_ge dX12_backs_49 (tgt := 78) (by decide) (fun hc => ?_) (fun hc => ?_)
  · have hr := ifn hr hc
    refine r_aload_n dX12_backs_78 rfl 0 rfl (nl rfl) ?_
    obtain ⟨h79, hg79, hr⟩ := bnd hr
    refine k_V (ci := 12) (o := a0) (T := TX12) (as := []) (rest := []) (X := (none, h79)) (oX12_clears2 hg79) gX12_clears2 rfl (by decide) rfl (wsl_50 _ (List.mem_of_getElem? (i := 23) rfl)) rfl dX12_backs_79 rfl ?_
    obtain rfl := Option.some.inj hr
    exact r_vret dX12_backs_82 rfl (k0 _ hk) ⟨rfl, rfl⟩
  · have hr := ifp hr hc
    refine r_aload_n dX12_backs_52 rfl 0 rfl (nl rfl) ?_
    refine r_get 12 6 (o := a0) (w := (50, h a0 6)) (T := TX12) (ref := "FollowingRefsModel") rfl (by decide) rfl (by decide) inlX12 (wsl_7 _ (List.mem_of_getElem? (i := 8) rfl)) rfl dX12_backs_53 rfl ?_
    refine r_sipush dX12_backs_56 (by decide) (by decide) ?_
    refine r_iload_n dX12_backs_59 rfl 1 rfl (Or.inl rfl) ?_
    refine r_iadd dX12_backs_60 ?_
    refine r_aload_n dX12_backs_61 rfl 0 rfl (nl rfl) ?_
    refine r_get 12 6 (o := a0) (w := (50, h a0 6)) (T := TX12) (ref := "FollowingRefsModel") rfl (by decide) rfl (by decide) inlX12 (wsl_7 _ (List.mem_of_getElem? (i := 8) rfl)) rfl dX12_backs_62 rfl ?_
    refine r_sipush dX12_backs_65 (by decide) (by decide) ?_
    refine r_iload_n dX12_backs_68 rfl 1 rfl (Or.inl rfl) ?_
    refine r_iadd dX12_backs_69 ?_
    obtain ⟨v70, hg70, hr⟩ := bnd hr
    refine r_iald dX12_backs_70 hg70 ?_
    obtain ⟨h71, hg71, hr⟩ := bnd hr
    refine r_iast dX12_backs_71 hg71 ?_
    refine r_iinc (k := 1) (v := l1) dX12_backs_72 rfl (by decide) (lv' := [(1, (0, w32 (l1 + 1))), (0, (22, a0))]) rfl ?_
    refine r_goto dX12_backs_75 (tgt := 45) (by decide) ?_
    refine r_sub [1, 0] (lv' := [(0, (22, a0)), (1, (0, w32 (l1 + 1)))]) rfl ?_
    obtain rfl := Option.some.inj hr
    exact k1 _ _ hk
set_option maxRecDepth 100000 in
set_option maxHeartbeats 4000000 in
theorem oX12_backs_s11 {h0 : hH} {a0 l1 : Int} {K : (hH × Int) ⊕ (hH) → Prop} (k0 : ∀ r, K (.inr (r)) → x = (none, r)) (k1 : ∀ (h : hH) (l1 : Int), K (.inl (h, l1)) → Wq p l e R s m args below meth c D G A H0 true n0 M_X12_backs x 0 0 11 [(0, (22, a0)), (1, (0, l1))] [] h) {r : (hH × Int) ⊕ (hH)} (hr : fX12_backs_s11 h0 a0 (h, l1) = some r) (hk : K r) : Wq p l e R s m args below meth c D G A H0 true n0 M_X12_backs x 0 0 11 [(0, (22, a0)), (1, (0, l1))] [] h := by
  unfold fX12_backs_s11 at hr
  refine r_iload_n dX12_backs_11 rfl 1 rfl (Or.inl rfl) ?_
  refine r_bipush dX12_backs_12 (by decide) (by decide) ?_
  refine r_icmp_ge dX12_backs_14 (tgt := 43) (by decide) (fun hc => ?_) (fun hc => ?_)
  · have hr := ifn hr hc
    refine r_iconst dX12_backs_43 (by decide) ?_
    refine r_istore_n dX12_backs_44 rfl (Or.inl rfl) (by decide) (lv' := [(1, (0, 0)), (0, (22, a0))]) rfl ?_
    refine r_sub [1, 0] (lv' := [(0, (22, a0)), (1, (0, 0))]) rfl ?_
    obtain ⟨r9, hr9, rfl⟩ := mpp hr
    exact lp_ok (w := fun (q : hH × Int) => Wq p l e R s m args below meth c D G A H0 true n0 M_X12_backs x 0 0 45 [(0, (22, a0)), (1, (0, q.2))] [] (q.1)) (K := fun z9 => K (.inr (z9))) (fun ⟨q0, q1⟩ r h1 h2 => oX12_backs_s45 (K := Sum.elim (fun (q : hH × Int) => Wq p l e R s m args below meth c D G A H0 true n0 M_X12_backs x 0 0 45 [(0, (22, a0)), (1, (0, q.2))] [] (q.1)) (fun z9 => K (.inr (z9)))) (fun r z => k0 r z) (fun _ _ z => z) h1 h2) hr9 hk
  · have hr := ifp hr hc
    refine r_aload_n dX12_backs_17 rfl 0 rfl (nl rfl) ?_
    refine r_get 12 6 (o := a0) (w := (50, h a0 6)) (T := TX12) (ref := "FollowingRefsModel") rfl (by decide) rfl (by decide) inlX12 (wsl_7 _ (List.mem_of_getElem? (i := 8) rfl)) rfl dX12_backs_18 rfl ?_
    refine r_sipush dX12_backs_21 (by decide) (by decide) ?_
    refine r_iload_n dX12_backs_24 rfl 1 rfl (Or.inl rfl) ?_
    refine r_iadd dX12_backs_25 ?_
    refine r_aload_n dX12_backs_26 rfl 0 rfl (nl rfl) ?_
    refine r_get 12 6 (o := a0) (w := (50, h a0 6)) (T := TX12) (ref := "FollowingRefsModel") rfl (by decide) rfl (by decide) inlX12 (wsl_7 _ (List.mem_of_getElem? (i := 8) rfl)) rfl dX12_backs_27 rfl ?_
    refine r_sipush dX12_backs_30 (by decide) (by decide) ?_
    refine r_iload_n dX12_backs_33 rfl 1 rfl (Or.inl rfl) ?_
    refine r_iadd dX12_backs_34 ?_
    obtain ⟨v35, hg35, hr⟩ := bnd hr
    refine r_iald dX12_backs_35 hg35 ?_
    obtain ⟨h36, hg36, hr⟩ := bnd hr
    refine r_iast dX12_backs_36 hg36 ?_
    refine r_iinc (k := 1) (v := l1) dX12_backs_37 rfl (by decide) (lv' := [(1, (0, w32 (l1 + 1))), (0, (22, a0))]) rfl ?_
    refine r_goto dX12_backs_40 (tgt := 11) (by decide) ?_
    refine r_sub [1, 0] (lv' := [(0, (22, a0)), (1, (0, w32 (l1 + 1)))]) rfl ?_
    obtain rfl := Option.some.inj hr
    exact k1 _ _ hk
set_option maxRecDepth 100000 in
set_option maxHeartbeats 4000000 in
theorem oX12_backs_b0 {a0 : Int} {K : hH → Prop} (k0 : ∀ r, K (r) → x = (none, r)) {r : hH} (hr : fX12_backs h a0 = some r) (hk : K r) : Wq p l e R s m args below meth c D G A H0 true n0 M_X12_backs x 0 0 0 [(0, (22, a0))] [] h := by
  unfold fX12_backs at hr
  refine r_aload_n dX12_backs_0 rfl 0 rfl (nl rfl) ?_
  refine r_get 12 6 (o := a0) (w := (50, h a0 6)) (T := TX12) (ref := "FollowingRefsModel") rfl (by decide) rfl (by decide) inlX12 (wsl_7 _ (List.mem_of_getElem? (i := 8) rfl)) rfl dX12_backs_1 rfl ?_
  refine r_sipush dX12_backs_4 (by decide) (by decide) ?_
  refine r_iconst dX12_backs_7 (by decide) ?_
  obtain ⟨h8, hg8, hr⟩ := bnd hr
  refine r_iast dX12_backs_8 hg8 ?_
  refine r_iconst dX12_backs_9 (by decide) ?_
  refine r_istore_n dX12_backs_10 rfl (Or.inl rfl) (by decide) (lv' := [(1, (0, 0)), (0, (22, a0))]) rfl ?_
  refine r_sub [1, 0] (lv' := [(0, (22, a0)), (1, (0, 0))]) rfl ?_
  exact lp_ok (w := fun (q : hH × Int) => Wq p l e R s m args below meth c D G A H0 true n0 M_X12_backs x 0 0 11 [(0, (22, a0)), (1, (0, q.2))] [] (q.1)) (K := K) (fun ⟨q0, q1⟩ r h1 h2 => oX12_backs_s11 (K := Sum.elim (fun (q : hH × Int) => Wq p l e R s m args below meth c D G A H0 true n0 M_X12_backs x 0 0 11 [(0, (22, a0)), (1, (0, q.2))] [] (q.1)) (K)) (fun r z => k0 r z) (fun _ _ z => z) h1 h2) hr hk
end M_X12_backs
theorem oX12_backs {l : Launch} {D : va_G} {G : gG} {h : hH} {a0 : Int} {r : hH} (hr : fX12_backs h a0 = some r) : Ctr l D G true yX12_backs M_X12_backs [(22, a0)] h (none, r) :=
  Ctr_of (by decide) rfl (fun z => by cases z) (nl rfl) (fun {p e R s m args below meth c A H0} => by
    exact oX12_backs_b0 (K := fun z9 => z9 = r) (fun r9 z => by rw [z]) hr rfl)
/-! X12_commits -/
theorem dX12_commits_0 : decode cX12_commits 0 = .ok (.aload_n 0, 1) := by decide +kernel
theorem dX12_commits_1 : decode cX12_commits 1 = .ok (.getfield 33, 3) := by decide +kernel
theorem dX12_commits_4 : decode cX12_commits 4 = .ok (.sipush 149, 3) := by decide +kernel
theorem dX12_commits_7 : decode cX12_commits 7 = .ok (.iconst 0, 1) := by decide +kernel
theorem dX12_commits_8 : decode cX12_commits 8 = .ok (.iastore, 1) := by decide +kernel
theorem dX12_commits_9 : decode cX12_commits 9 = .ok (.aload_n 0, 1) := by decide +kernel
theorem dX12_commits_10 : decode cX12_commits 10 = .ok (.invokevirtual 468, 3) := by decide +kernel
theorem dX12_commits_13 : decode cX12_commits 13 = .ok (.return_, 1) := by decide +kernel
abbrev M_X12_commits : mM := (cX12_commits, 1, RX12, none, false, 1, 21, 0, 0)
theorem gX12_commits : cI yX12_commits M_X12_commits 0 := ⟨(wsl_50 _ (List.mem_of_getElem? (i := 20) rfl)), (wsl_50 _ (List.mem_of_getElem? (i := 21) rfl)), (wsl_1 _ (List.mem_of_getElem? (i := 5) rfl)), (wsl_50 _ (List.mem_of_getElem? (i := 22) rfl)), by decide +kernel⟩
noncomputable def fX12_commits (h : hH) (a0 : Int) : Option (hH) :=
  (aput h (h a0 6) 149 0).bind fun h8 =>
  (fX12_clears2 h8 a0).bind fun h10 =>
  some h10
section M_X12_commits
variable {p : Program} {l : Launch} {e : Env} {R : Room} {s : State} {m : MethodId} {args : Array Value} {below : List Frame} {meth : Method} {c : Code} {D : va_G} {G : gG} {A : Nat → Prop} {H0 : Heap} {n0 : Int} {x : Option vV × hH} {h : hH}
set_option maxRecDepth 100000 in
set_option maxHeartbeats 4000000 in
theorem oX12_commits_b0 {a0 : Int} {K : hH → Prop} (k0 : ∀ r, K (r) → x = (none, r)) {r : hH} (hr : fX12_commits h a0 = some r) (hk : K r) : Wq p l e R s m args below meth c D G A H0 true n0 M_X12_commits x 0 0 0 [(0, (22, a0))] [] h := by
  unfold fX12_commits at hr
  refine r_aload_n dX12_commits_0 rfl 0 rfl (nl rfl) ?_
  refine r_get 12 6 (o := a0) (w := (50, h a0 6)) (T := TX12) (ref := "FollowingRefsModel") rfl (by decide) rfl (by decide) inlX12 (wsl_7 _ (List.mem_of_getElem? (i := 8) rfl)) rfl dX12_commits_1 rfl ?_
  refine r_sipush dX12_commits_4 (by decide) (by decide) ?_
  refine r_iconst dX12_commits_7 (by decide) ?_
  obtain ⟨h8, hg8, hr⟩ := bnd hr
  refine r_iast dX12_commits_8 hg8 ?_
  refine r_aload_n dX12_commits_9 rfl 0 rfl (nl rfl) ?_
  obtain ⟨h10, hg10, hr⟩ := bnd hr
  refine k_V (ci := 12) (o := a0) (T := TX12) (as := []) (rest := []) (X := (none, h10)) (oX12_clears2 hg10) gX12_clears2 rfl (by decide) rfl (wsl_50 _ (List.mem_of_getElem? (i := 23) rfl)) rfl dX12_commits_10 rfl ?_
  obtain rfl := Option.some.inj hr
  exact r_vret dX12_commits_13 rfl (k0 _ hk) ⟨rfl, rfl⟩
end M_X12_commits
theorem oX12_commits {l : Launch} {D : va_G} {G : gG} {h : hH} {a0 : Int} {r : hH} (hr : fX12_commits h a0 = some r) : Ctr l D G true yX12_commits M_X12_commits [(22, a0)] h (none, r) :=
  Ctr_of (by decide) rfl (fun z => by cases z) (nl rfl) (fun {p e R s m args below meth c A H0} => by
    exact oX12_commits_b0 (K := fun z9 => z9 = r) (fun r9 z => by rw [z]) hr rfl)
/-! X12_commit -/
theorem dX12_commit_0 : decode cX12_commit 0 = .ok (.aload_n 0, 1) := by decide +kernel
theorem dX12_commit_1 : decode cX12_commit 1 = .ok (.iconst 0, 1) := by decide +kernel
theorem dX12_commit_2 : decode cX12_commit 2 = .ok (.putfield 1, 3) := by decide +kernel
theorem dX12_commit_5 : decode cX12_commit 5 = .ok (.aload_n 0, 1) := by decide +kernel
theorem dX12_commit_6 : decode cX12_commit 6 = .ok (.iconst 0, 1) := by decide +kernel
theorem dX12_commit_7 : decode cX12_commit 7 = .ok (.putfield 327, 3) := by decide +kernel
theorem dX12_commit_10 : decode cX12_commit 10 = .ok (.aload_n 0, 1) := by decide +kernel
theorem dX12_commit_11 : decode cX12_commit 11 = .ok (.invokevirtual 471, 3) := by decide +kernel
theorem dX12_commit_14 : decode cX12_commit 14 = .ok (.istore_n 1, 1) := by decide +kernel
theorem dX12_commit_15 : decode cX12_commit 15 = .ok (.aload_n 0, 1) := by decide +kernel
theorem dX12_commit_16 : decode cX12_commit 16 = .ok (.invokevirtual 474, 3) := by decide +kernel
theorem dX12_commit_19 : decode cX12_commit 19 = .ok (.iload_n 1, 1) := by decide +kernel
theorem dX12_commit_20 : decode cX12_commit 20 = .ok (.ifCond .le 5, 3) := by decide +kernel
theorem dX12_commit_23 : decode cX12_commit 23 = .ok (.iload_n 1, 1) := by decide +kernel
theorem dX12_commit_24 : decode cX12_commit 24 = .ok (.ireturn, 1) := by decide +kernel
theorem dX12_commit_25 : decode cX12_commit 25 = .ok (.aload_n 0, 1) := by decide +kernel
theorem dX12_commit_26 : decode cX12_commit 26 = .ok (.invokevirtual 462, 3) := by decide +kernel
theorem dX12_commit_29 : decode cX12_commit 29 = .ok (.aload_n 0, 1) := by decide +kernel
theorem dX12_commit_30 : decode cX12_commit 30 = .ok (.invokevirtual 477, 3) := by decide +kernel
theorem dX12_commit_33 : decode cX12_commit 33 = .ok (.iconst 0, 1) := by decide +kernel
theorem dX12_commit_34 : decode cX12_commit 34 = .ok (.ireturn, 1) := by decide +kernel
abbrev M_X12_commit : mM := (cX12_commit, 2, RX12, some .int, false, 6, 139, 0, 0)
theorem gX12_commit : cI yX12_commit M_X12_commit 0 := ⟨(wsl_50 _ (List.mem_of_getElem? (i := 12) rfl)), (wsl_50 _ (List.mem_of_getElem? (i := 13) rfl)), (wsl_1 _ (List.mem_of_getElem? (i := 5) rfl)), (wsl_50 _ (List.mem_of_getElem? (i := 14) rfl)), by decide +kernel⟩
noncomputable def fX12_commit (h : hH) (a0 : Int) : Option (Int × hH) :=
  (pput h a0 0 0).bind fun h2 =>
  (pput h2 a0 26 0).bind fun h7 =>
  (fX12_whyCommit h7 a0).bind fun q11 =>
  (fX12_tellsViolations q11.2 a0).bind fun h16 =>
  if 0 < q11.1 then
    some (q11.1, h16)
  else
    (fX12_keeps h16 a0).bind fun h26 =>
    (fX12_commits h26 a0).bind fun h30 =>
    some (0, h30)
section M_X12_commit
variable {p : Program} {l : Launch} {e : Env} {R : Room} {s : State} {m : MethodId} {args : Array Value} {below : List Frame} {meth : Method} {c : Code} {D : va_G} {G : gG} {A : Nat → Prop} {H0 : Heap} {n0 : Int} {x : Option vV × hH} {h : hH}
set_option maxRecDepth 100000 in
set_option maxHeartbeats 4000000 in
theorem oX12_commit_b0 {a0 : Int} {K : Int × hH → Prop} (k0 : ∀ r, K (r) → x = (some (0, r.1), r.2)) {r : Int × hH} (hr : fX12_commit h a0 = some r) (hk : K r) : Wq p l e R s m args below meth c D G A H0 true n0 M_X12_commit x 0 0 0 [(0, (22, a0))] [] h := by
  unfold fX12_commit at hr
  refine r_aload_n dX12_commit_0 rfl 0 rfl (nl rfl) ?_
  refine r_iconst dX12_commit_1 (by decide) ?_
  obtain ⟨h2, hg2, hr⟩ := bnd hr
  refine r_put' 12 0 (t := 0) (ref := "FollowingRefsModel") hg2 rfl tyX12 tyX12_ok nmX12 rfl (by decide) rfl (by decide) inlX12 (wsl_10 _ (List.mem_of_getElem? (i := 11) rfl)) rfl rfl (by decide +kernel) (by decide) rfl (Or.inl ⟨rfl, rfl⟩) dX12_commit_2 ?_
  refine r_aload_n dX12_commit_5 rfl 0 rfl (nl rfl) ?_
  refine r_iconst dX12_commit_6 (by decide) ?_
  obtain ⟨h7, hg7, hr⟩ := bnd hr
  refine r_put' 12 26 (t := 0) (ref := "FollowingRefsModel") hg7 rfl tyX12 tyX12_ok nmX12 rfl (by decide) rfl (by decide) inlX12 (wsl_42 _ (List.mem_of_getElem? (i := 7) rfl)) rfl rfl (by decide +kernel) (by decide) rfl (Or.inl ⟨rfl, rfl⟩) dX12_commit_7 ?_
  refine r_aload_n dX12_commit_10 rfl 0 rfl (nl rfl) ?_
  obtain ⟨q11, hg11, hr⟩ := bnd hr
  refine k_V (ci := 12) (o := a0) (T := TX12) (as := []) (rest := []) (X := (some (0, q11.1), q11.2)) (oX12_whyCommit hg11) gX12_whyCommit rfl (by decide) rfl (wsl_50 _ (List.mem_of_getElem? (i := 15) rfl)) rfl dX12_commit_11 rfl ?_
  refine r_istore_n dX12_commit_14 rfl (Or.inl rfl) (by decide) (lv' := [(1, (0, q11.1)), (0, (22, a0))]) rfl ?_
  refine r_aload_n dX12_commit_15 rfl 1 rfl (nl rfl) ?_
  obtain ⟨h16, hg16, hr⟩ := bnd hr
  refine k_V (ci := 12) (o := a0) (T := TX12) (as := []) (rest := []) (X := (none, h16)) (oX12_tellsViolations hg16) gX12_tellsViolations rfl (by decide) rfl (wsl_46 _ (List.mem_of_getElem? (i := 13) rfl)) rfl dX12_commit_16 rfl ?_
  refine r_iload_n dX12_commit_19 rfl 0 rfl (Or.inl rfl) ?_
  refine r_if_le dX12_commit_20 (tgt := 25) (by decide) (fun hc => ?_) (fun hc => ?_)
  · have hr := ifn hr hc
    refine r_aload_n dX12_commit_25 rfl 1 rfl (nl rfl) ?_
    obtain ⟨h26, hg26, hr⟩ := bnd hr
    refine k_V (ci := 12) (o := a0) (T := TX12) (as := []) (rest := []) (X := (none, h26)) (oX12_keeps hg26) gX12_keeps rfl (by decide) rfl (wsl_49 _ (List.mem_of_getElem? (i := 17) rfl)) rfl dX12_commit_26 rfl ?_
    refine r_aload_n dX12_commit_29 rfl 1 rfl (nl rfl) ?_
    obtain ⟨h30, hg30, hr⟩ := bnd hr
    refine k_V (ci := 12) (o := a0) (T := TX12) (as := []) (rest := []) (X := (none, h30)) (oX12_commits hg30) gX12_commits rfl (by decide) rfl (wsl_50 _ (List.mem_of_getElem? (i := 19) rfl)) rfl dX12_commit_30 rfl ?_
    refine r_iconst dX12_commit_33 (by decide) ?_
    obtain rfl := Option.some.inj hr
    exact r_ret dX12_commit_34 rfl (Or.inl ⟨rfl, rfl⟩) (k0 _ hk) ⟨rfl, rfl⟩
  · have hr := ifp hr hc
    refine r_iload_n dX12_commit_23 rfl 0 rfl (Or.inl rfl) ?_
    obtain rfl := Option.some.inj hr
    exact r_ret dX12_commit_24 rfl (Or.inl ⟨rfl, rfl⟩) (k0 _ hk) ⟨rfl, rfl⟩
end M_X12_commit
theorem oX12_commit {l : Launch} {D : va_G} {G : gG} {h : hH} {a0 : Int} {r : Int × hH} (hr : fX12_commit h a0 = some r) : Ctr l D G true yX12_commit M_X12_commit [(22, a0)] h (some (0, r.1), r.2) :=
  Ctr_of (by decide) rfl (fun z => by cases z) (nl rfl) (fun {p e R s m args below meth c A H0} => by
    exact oX12_commit_b0 (K := fun z9 => z9 = r) (fun r9 z => by rw [z]) hr rfl)
/-! X12_back -/
theorem dX12_back_0 : decode cX12_back 0 = .ok (.aload_n 0, 1) := by decide +kernel
theorem dX12_back_1 : decode cX12_back 1 = .ok (.iconst 0, 1) := by decide +kernel
theorem dX12_back_2 : decode cX12_back 2 = .ok (.putfield 1, 3) := by decide +kernel
theorem dX12_back_5 : decode cX12_back 5 = .ok (.aload_n 0, 1) := by decide +kernel
theorem dX12_back_6 : decode cX12_back 6 = .ok (.getfield 33, 3) := by decide +kernel
theorem dX12_back_9 : decode cX12_back 9 = .ok (.sipush 149, 3) := by decide +kernel
theorem dX12_back_12 : decode cX12_back 12 = .ok (.iaload, 1) := by decide +kernel
theorem dX12_back_13 : decode cX12_back 13 = .ok (.ifCond .ne 5, 3) := by decide +kernel
theorem dX12_back_16 : decode cX12_back 16 = .ok (.iconst 1, 1) := by decide +kernel
theorem dX12_back_17 : decode cX12_back 17 = .ok (.ireturn, 1) := by decide +kernel
theorem dX12_back_18 : decode cX12_back 18 = .ok (.aload_n 0, 1) := by decide +kernel
theorem dX12_back_19 : decode cX12_back 19 = .ok (.invokevirtual 462, 3) := by decide +kernel
theorem dX12_back_22 : decode cX12_back 22 = .ok (.aload_n 0, 1) := by decide +kernel
theorem dX12_back_23 : decode cX12_back 23 = .ok (.invokevirtual 480, 3) := by decide +kernel
theorem dX12_back_26 : decode cX12_back 26 = .ok (.iconst 0, 1) := by decide +kernel
theorem dX12_back_27 : decode cX12_back 27 = .ok (.ireturn, 1) := by decide +kernel
abbrev M_X12_back : mM := (cX12_back, 1, RX12, some .int, false, 2, 42, 0, 0)
theorem gX12_back : cI yX12_back M_X12_back 0 := ⟨(wsl_51 _ (List.mem_of_getElem? (i := 13) rfl)), (wsl_51 _ (List.mem_of_getElem? (i := 14) rfl)), (wsl_1 _ (List.mem_of_getElem? (i := 5) rfl)), (wsl_51 _ (List.mem_of_getElem? (i := 15) rfl)), by decide +kernel⟩
noncomputable def fX12_back (h : hH) (a0 : Int) : Option (Int × hH) :=
  (pput h a0 0 0).bind fun h2 =>
  (aget h2 (h2 a0 6) 149).bind fun v12 =>
  if v12 = 0 then
    some (1, h2)
  else
    (fX12_keeps h2 a0).bind fun h19 =>
    (fX12_backs h19 a0).bind fun h23 =>
    some (0, h23)
section M_X12_back
variable {p : Program} {l : Launch} {e : Env} {R : Room} {s : State} {m : MethodId} {args : Array Value} {below : List Frame} {meth : Method} {c : Code} {D : va_G} {G : gG} {A : Nat → Prop} {H0 : Heap} {n0 : Int} {x : Option vV × hH} {h : hH}
set_option maxRecDepth 100000 in
set_option maxHeartbeats 4000000 in
theorem oX12_back_b0 {a0 : Int} {K : Int × hH → Prop} (k0 : ∀ r, K (r) → x = (some (0, r.1), r.2)) {r : Int × hH} (hr : fX12_back h a0 = some r) (hk : K r) : Wq p l e R s m args below meth c D G A H0 true n0 M_X12_back x 0 0 0 [(0, (22, a0))] [] h := by
  unfold fX12_back at hr
  refine r_aload_n dX12_back_0 rfl 0 rfl (nl rfl) ?_
  refine r_iconst dX12_back_1 (by decide) ?_
  obtain ⟨h2, hg2, hr⟩ := bnd hr
  refine r_put' 12 0 (t := 0) (ref := "FollowingRefsModel") hg2 rfl tyX12 tyX12_ok nmX12 rfl (by decide) rfl (by decide) inlX12 (wsl_10 _ (List.mem_of_getElem? (i := 11) rfl)) rfl rfl (by decide +kernel) (by decide) rfl (Or.inl ⟨rfl, rfl⟩) dX12_back_2 ?_
  refine r_aload_n dX12_back_5 rfl 0 rfl (nl rfl) ?_
  refine r_get 12 6 (o := a0) (w := (50, h2 a0 6)) (T := TX12) (ref := "FollowingRefsModel") rfl (by decide) rfl (by decide) inlX12 (wsl_7 _ (List.mem_of_getElem? (i := 8) rfl)) rfl dX12_back_6 rfl ?_
  refine r_sipush dX12_back_9 (by decide) (by decide) ?_
  obtain ⟨v12, hg12, hr⟩ := bnd hr
  refine r_iald dX12_back_12 hg12 ?_
  refine r_if_ne dX12_back_13 (tgt := 18) (by decide) (fun hc => ?_) (fun hc => ?_)
  · have hr := ifn hr hc
    refine r_aload_n dX12_back_18 rfl 0 rfl (nl rfl) ?_
    obtain ⟨h19, hg19, hr⟩ := bnd hr
    refine k_V (ci := 12) (o := a0) (T := TX12) (as := []) (rest := []) (X := (none, h19)) (oX12_keeps hg19) gX12_keeps rfl (by decide) rfl (wsl_49 _ (List.mem_of_getElem? (i := 17) rfl)) rfl dX12_back_19 rfl ?_
    refine r_aload_n dX12_back_22 rfl 0 rfl (nl rfl) ?_
    obtain ⟨h23, hg23, hr⟩ := bnd hr
    refine k_V (ci := 12) (o := a0) (T := TX12) (as := []) (rest := []) (X := (none, h23)) (oX12_backs hg23) gX12_backs rfl (by decide) rfl (wsl_51 _ (List.mem_of_getElem? (i := 16) rfl)) rfl dX12_back_23 rfl ?_
    refine r_iconst dX12_back_26 (by decide) ?_
    obtain rfl := Option.some.inj hr
    exact r_ret dX12_back_27 rfl (Or.inl ⟨rfl, rfl⟩) (k0 _ hk) ⟨rfl, rfl⟩
  · have hr := ifp hr hc
    refine r_iconst dX12_back_16 (by decide) ?_
    obtain rfl := Option.some.inj hr
    exact r_ret dX12_back_17 rfl (Or.inl ⟨rfl, rfl⟩) (k0 _ hk) ⟨rfl, rfl⟩
end M_X12_back
theorem oX12_back {l : Launch} {D : va_G} {G : gG} {h : hH} {a0 : Int} {r : Int × hH} (hr : fX12_back h a0 = some r) : Ctr l D G true yX12_back M_X12_back [(22, a0)] h (some (0, r.1), r.2) :=
  Ctr_of (by decide) rfl (fun z => by cases z) (nl rfl) (fun {p e R s m args below meth c A H0} => by
    exact oX12_back_b0 (K := fun z9 => z9 = r) (fun r9 z => by rw [z]) hr rfl)
/-! X12_undo -/
theorem dX12_undo_0 : decode cX12_undo 0 = .ok (.aload_n 0, 1) := by decide +kernel
theorem dX12_undo_1 : decode cX12_undo 1 = .ok (.iconst 0, 1) := by decide +kernel
theorem dX12_undo_2 : decode cX12_undo 2 = .ok (.putfield 1, 3) := by decide +kernel
theorem dX12_undo_5 : decode cX12_undo 5 = .ok (.aload_n 0, 1) := by decide +kernel
theorem dX12_undo_6 : decode cX12_undo 6 = .ok (.getfield 314, 3) := by decide +kernel
theorem dX12_undo_9 : decode cX12_undo 9 = .ok (.ifCond .ne 5, 3) := by decide +kernel
theorem dX12_undo_12 : decode cX12_undo 12 = .ok (.iconst (-1), 1) := by decide +kernel
theorem dX12_undo_13 : decode cX12_undo 13 = .ok (.ireturn, 1) := by decide +kernel
theorem dX12_undo_14 : decode cX12_undo 14 = .ok (.aload_n 0, 1) := by decide +kernel
theorem dX12_undo_15 : decode cX12_undo 15 = .ok (.dup, 1) := by decide +kernel
theorem dX12_undo_16 : decode cX12_undo 16 = .ok (.getfield 314, 3) := by decide +kernel
theorem dX12_undo_19 : decode cX12_undo 19 = .ok (.iconst 1, 1) := by decide +kernel
theorem dX12_undo_20 : decode cX12_undo 20 = .ok (.isub, 1) := by decide +kernel
theorem dX12_undo_21 : decode cX12_undo 21 = .ok (.putfield 314, 3) := by decide +kernel
theorem dX12_undo_24 : decode cX12_undo 24 = .ok (.iconst 0, 1) := by decide +kernel
theorem dX12_undo_25 : decode cX12_undo 25 = .ok (.istore_n 1, 1) := by decide +kernel
theorem dX12_undo_26 : decode cX12_undo 26 = .ok (.iload_n 1, 1) := by decide +kernel
theorem dX12_undo_27 : decode cX12_undo 27 = .ok (.sipush 1091, 3) := by decide +kernel
theorem dX12_undo_30 : decode cX12_undo 30 = .ok (.if_icmp .ge 34, 3) := by decide +kernel
theorem dX12_undo_33 : decode cX12_undo 33 = .ok (.aload_n 0, 1) := by decide +kernel
theorem dX12_undo_34 : decode cX12_undo 34 = .ok (.getfield 33, 3) := by decide +kernel
theorem dX12_undo_37 : decode cX12_undo 37 = .ok (.sipush 148, 3) := by decide +kernel
theorem dX12_undo_40 : decode cX12_undo 40 = .ok (.iload_n 1, 1) := by decide +kernel
theorem dX12_undo_41 : decode cX12_undo 41 = .ok (.iadd, 1) := by decide +kernel
theorem dX12_undo_42 : decode cX12_undo 42 = .ok (.aload_n 0, 1) := by decide +kernel
theorem dX12_undo_43 : decode cX12_undo 43 = .ok (.getfield 89, 3) := by decide +kernel
theorem dX12_undo_46 : decode cX12_undo 46 = .ok (.sipush 1091, 3) := by decide +kernel
theorem dX12_undo_49 : decode cX12_undo 49 = .ok (.aload_n 0, 1) := by decide +kernel
theorem dX12_undo_50 : decode cX12_undo 50 = .ok (.getfield 314, 3) := by decide +kernel
theorem dX12_undo_53 : decode cX12_undo 53 = .ok (.imul, 1) := by decide +kernel
theorem dX12_undo_54 : decode cX12_undo 54 = .ok (.iload_n 1, 1) := by decide +kernel
theorem dX12_undo_55 : decode cX12_undo 55 = .ok (.iadd, 1) := by decide +kernel
theorem dX12_undo_56 : decode cX12_undo 56 = .ok (.iaload, 1) := by decide +kernel
theorem dX12_undo_57 : decode cX12_undo 57 = .ok (.iastore, 1) := by decide +kernel
theorem dX12_undo_58 : decode cX12_undo 58 = .ok (.iinc 1 1, 3) := by decide +kernel
theorem dX12_undo_61 : decode cX12_undo 61 = .ok (.goto (-35), 3) := by decide +kernel
theorem dX12_undo_64 : decode cX12_undo 64 = .ok (.aload_n 0, 1) := by decide +kernel
theorem dX12_undo_65 : decode cX12_undo 65 = .ok (.getfield 314, 3) := by decide +kernel
theorem dX12_undo_68 : decode cX12_undo 68 = .ok (.ireturn, 1) := by decide +kernel
abbrev M_X12_undo : mM := (cX12_undo, 2, RX12, some .int, false, 0, 0, 0, 0)
theorem gX12_undo : cI yX12_undo M_X12_undo 0 := ⟨(wsl_52 _ (List.mem_of_getElem? (i := 1) rfl)), (wsl_52 _ (List.mem_of_getElem? (i := 2) rfl)), (wsl_1 _ (List.mem_of_getElem? (i := 5) rfl)), (wsl_52 _ (List.mem_of_getElem? (i := 3) rfl)), by decide +kernel⟩
noncomputable def fX12_undo_s26 (h0 : hH) (a0 : Int) : hH × Int → Option ((hH × Int) ⊕ (Int × hH)) := fun (h, l1) =>
  if l1 < 1091 then
    (aget h (h a0 43) (w32 ((w32 (1091 * (h a0 44))) + l1))).bind fun v56 =>
    (aput h (h a0 6) (w32 (148 + l1)) v56).bind fun h57 =>
    some (.inl (h57, w32 (l1 + 1)))
  else
    some (.inr ((h a0 44, h)))
noncomputable def fX12_undo (h : hH) (a0 : Int) : Option (Int × hH) :=
  (pput h a0 0 0).bind fun h2 =>
  if h2 a0 44 = 0 then
    some (-1, h2)
  else
    (pput h2 a0 44 (w32 ((h2 a0 44) - 1))).bind fun h21 =>
    lpO (fX12_undo_s26 h21 a0) (h21, 0)
section M_X12_undo
variable {p : Program} {l : Launch} {e : Env} {R : Room} {s : State} {m : MethodId} {args : Array Value} {below : List Frame} {meth : Method} {c : Code} {D : va_G} {G : gG} {A : Nat → Prop} {H0 : Heap} {n0 : Int} {x : Option vV × hH} {h : hH}
set_option maxRecDepth 100000 in
set_option maxHeartbeats 4000000 in
theorem oX12_undo_s26 {h0 : hH} {a0 l1 : Int} {K : (hH × Int) ⊕ (Int × hH) → Prop} (k0 : ∀ r, K (.inr (r)) → x = (some (0, r.1), r.2)) (k1 : ∀ (h : hH) (l1 : Int), K (.inl (h, l1)) → Wq p l e R s m args below meth c D G A H0 true n0 M_X12_undo x 0 0 26 [(0, (22, a0)), (1, (0, l1))] [] h) {r : (hH × Int) ⊕ (Int × hH)} (hr : fX12_undo_s26 h0 a0 (h, l1) = some r) (hk : K r) : Wq p l e R s m args below meth c D G A H0 true n0 M_X12_undo x 0 0 26 [(0, (22, a0)), (1, (0, l1))] [] h := by
  unfold fX12_undo_s26 at hr
  refine r_iload_n dX12_undo_26 rfl 1 rfl (Or.inl rfl) ?_
  refine r_sipush dX12_undo_27 (by decide) (by decide) ?_
  refine r_icmp_ge dX12_undo_30 (tgt := 64) (by decide) (fun hc => ?_) (fun hc => ?_)
  · have hr := ifn hr hc
    refine r_aload_n dX12_undo_64 rfl 0 rfl (nl rfl) ?_
    refine r_get 12 44 (o := a0) (w := (0, h a0 44)) (T := TX12) (ref := "FollowingRefsModel") rfl (by decide) rfl (by decide) inlX12 (wsl_23 _ (List.mem_of_getElem? (i := 16) rfl)) rfl dX12_undo_65 rfl ?_
    obtain rfl := Option.some.inj hr
    exact r_ret dX12_undo_68 rfl (Or.inl ⟨rfl, rfl⟩) (k0 _ hk) ⟨rfl, rfl⟩
  · have hr := ifp hr hc
    refine r_aload_n dX12_undo_33 rfl 0 rfl (nl rfl) ?_
    refine r_get 12 6 (o := a0) (w := (50, h a0 6)) (T := TX12) (ref := "FollowingRefsModel") rfl (by decide) rfl (by decide) inlX12 (wsl_7 _ (List.mem_of_getElem? (i := 8) rfl)) rfl dX12_undo_34 rfl ?_
    refine r_sipush dX12_undo_37 (by decide) (by decide) ?_
    refine r_iload_n dX12_undo_40 rfl 1 rfl (Or.inl rfl) ?_
    refine r_iadd dX12_undo_41 ?_
    refine r_aload_n dX12_undo_42 rfl 0 rfl (nl rfl) ?_
    refine r_get 12 43 (o := a0) (w := (50, h a0 43)) (T := TX12) (ref := "FollowingRefsModel") rfl (by decide) rfl (by decide) inlX12 (wsl_8 _ (List.mem_of_getElem? (i := 2) rfl)) rfl dX12_undo_43 rfl ?_
    refine r_sipush dX12_undo_46 (by decide) (by decide) ?_
    refine r_aload_n dX12_undo_49 rfl 0 rfl (nl rfl) ?_
    refine r_get 12 44 (o := a0) (w := (0, h a0 44)) (T := TX12) (ref := "FollowingRefsModel") rfl (by decide) rfl (by decide) inlX12 (wsl_23 _ (List.mem_of_getElem? (i := 16) rfl)) rfl dX12_undo_50 rfl ?_
    refine r_imul dX12_undo_53 ?_
    refine r_iload_n dX12_undo_54 rfl 1 rfl (Or.inl rfl) ?_
    refine r_iadd dX12_undo_55 ?_
    obtain ⟨v56, hg56, hr⟩ := bnd hr
    refine r_iald dX12_undo_56 hg56 ?_
    obtain ⟨h57, hg57, hr⟩ := bnd hr
    refine r_iast dX12_undo_57 hg57 ?_
    refine r_iinc (k := 1) (v := l1) dX12_undo_58 rfl (by decide) (lv' := [(1, (0, w32 (l1 + 1))), (0, (22, a0))]) rfl ?_
    refine r_goto dX12_undo_61 (tgt := 26) (by decide) ?_
    refine r_sub [1, 0] (lv' := [(0, (22, a0)), (1, (0, w32 (l1 + 1)))]) rfl ?_
    obtain rfl := Option.some.inj hr
    exact k1 _ _ hk
set_option maxRecDepth 100000 in
set_option maxHeartbeats 4000000 in
theorem oX12_undo_b0 {a0 : Int} {K : Int × hH → Prop} (k0 : ∀ r, K (r) → x = (some (0, r.1), r.2)) {r : Int × hH} (hr : fX12_undo h a0 = some r) (hk : K r) : Wq p l e R s m args below meth c D G A H0 true n0 M_X12_undo x 0 0 0 [(0, (22, a0))] [] h := by
  unfold fX12_undo at hr
  refine r_aload_n dX12_undo_0 rfl 0 rfl (nl rfl) ?_
  refine r_iconst dX12_undo_1 (by decide) ?_
  obtain ⟨h2, hg2, hr⟩ := bnd hr
  refine r_put' 12 0 (t := 0) (ref := "FollowingRefsModel") hg2 rfl tyX12 tyX12_ok nmX12 rfl (by decide) rfl (by decide) inlX12 (wsl_10 _ (List.mem_of_getElem? (i := 11) rfl)) rfl rfl (by decide +kernel) (by decide) rfl (Or.inl ⟨rfl, rfl⟩) dX12_undo_2 ?_
  refine r_aload_n dX12_undo_5 rfl 0 rfl (nl rfl) ?_
  refine r_get 12 44 (o := a0) (w := (0, h2 a0 44)) (T := TX12) (ref := "FollowingRefsModel") rfl (by decide) rfl (by decide) inlX12 (wsl_23 _ (List.mem_of_getElem? (i := 16) rfl)) rfl dX12_undo_6 rfl ?_
  refine r_if_ne dX12_undo_9 (tgt := 14) (by decide) (fun hc => ?_) (fun hc => ?_)
  · have hr := ifn hr hc
    refine r_aload_n dX12_undo_14 rfl 0 rfl (nl rfl) ?_
    refine r_dup dX12_undo_15 (Nat.ne_of_beq_eq_false rfl) ?_
    refine r_get 12 44 (o := a0) (w := (0, h2 a0 44)) (T := TX12) (ref := "FollowingRefsModel") rfl (by decide) rfl (by decide) inlX12 (wsl_23 _ (List.mem_of_getElem? (i := 16) rfl)) rfl dX12_undo_16 rfl ?_
    refine r_iconst dX12_undo_19 (by decide) ?_
    refine r_isub dX12_undo_20 ?_
    obtain ⟨h21, hg21, hr⟩ := bnd hr
    refine r_put' 12 44 (t := 0) (ref := "FollowingRefsModel") hg21 rfl tyX12 tyX12_ok nmX12 rfl (by decide) rfl (by decide) inlX12 (wsl_23 _ (List.mem_of_getElem? (i := 16) rfl)) rfl rfl (by decide +kernel) (by decide) rfl (Or.inl ⟨rfl, rfl⟩) dX12_undo_21 ?_
    refine r_iconst dX12_undo_24 (by decide) ?_
    refine r_istore_n dX12_undo_25 rfl (Or.inl rfl) (by decide) (lv' := [(1, (0, 0)), (0, (22, a0))]) rfl ?_
    refine r_sub [1, 0] (lv' := [(0, (22, a0)), (1, (0, 0))]) rfl ?_
    exact lp_ok (w := fun (q : hH × Int) => Wq p l e R s m args below meth c D G A H0 true n0 M_X12_undo x 0 0 26 [(0, (22, a0)), (1, (0, q.2))] [] (q.1)) (K := K) (fun ⟨q0, q1⟩ r h1 h2 => oX12_undo_s26 (K := Sum.elim (fun (q : hH × Int) => Wq p l e R s m args below meth c D G A H0 true n0 M_X12_undo x 0 0 26 [(0, (22, a0)), (1, (0, q.2))] [] (q.1)) (K)) (fun r z => k0 r z) (fun _ _ z => z) h1 h2) hr hk
  · have hr := ifp hr hc
    refine r_iconst dX12_undo_12 (by decide) ?_
    obtain rfl := Option.some.inj hr
    exact r_ret dX12_undo_13 rfl (Or.inl ⟨rfl, rfl⟩) (k0 _ hk) ⟨rfl, rfl⟩
end M_X12_undo
theorem oX12_undo {l : Launch} {D : va_G} {G : gG} {h : hH} {a0 : Int} {r : Int × hH} (hr : fX12_undo h a0 = some r) : Ctr l D G true yX12_undo M_X12_undo [(22, a0)] h (some (0, r.1), r.2) :=
  Ctr_of (by decide) rfl (fun z => by cases z) (nl rfl) (fun {p e R s m args below meth c A H0} => by
    exact oX12_undo_b0 (K := fun z9 => z9 = r) (fun r9 z => by rw [z]) hr rfl)
/-! X12_violationsNow -/
theorem dX12_violationsNow_0 : decode cX12_violationsNow 0 = .ok (.aload_n 0, 1) := by decide +kernel
theorem dX12_violationsNow_1 : decode cX12_violationsNow 1 = .ok (.iconst 1, 1) := by decide +kernel
theorem dX12_violationsNow_2 : decode cX12_violationsNow 2 = .ok (.invokevirtual 432, 3) := by decide +kernel
theorem dX12_violationsNow_5 : decode cX12_violationsNow 5 = .ok (.aload_n 0, 1) := by decide +kernel
theorem dX12_violationsNow_6 : decode cX12_violationsNow 6 = .ok (.getfield 327, 3) := by decide +kernel
theorem dX12_violationsNow_9 : decode cX12_violationsNow 9 = .ok (.ireturn, 1) := by decide +kernel
abbrev M_X12_violationsNow : mM := (cX12_violationsNow, 1, RX12, some .int, false, 5, 119, 0, 0)
theorem gX12_violationsNow : cI yX12_violationsNow M_X12_violationsNow 0 := ⟨(wsl_52 _ (List.mem_of_getElem? (i := 15) rfl)), (wsl_52 _ (List.mem_of_getElem? (i := 16) rfl)), (wsl_1 _ (List.mem_of_getElem? (i := 5) rfl)), (wsl_52 _ (List.mem_of_getElem? (i := 17) rfl)), by decide +kernel⟩
noncomputable def fX12_violationsNow (h : hH) (a0 : Int) : Option (Int × hH) :=
  (fX12_judgesAll h a0 1).bind fun h2 =>
  some (h2 a0 26, h2)
section M_X12_violationsNow
variable {p : Program} {l : Launch} {e : Env} {R : Room} {s : State} {m : MethodId} {args : Array Value} {below : List Frame} {meth : Method} {c : Code} {D : va_G} {G : gG} {A : Nat → Prop} {H0 : Heap} {n0 : Int} {x : Option vV × hH} {h : hH}
set_option maxRecDepth 100000 in
set_option maxHeartbeats 4000000 in
theorem oX12_violationsNow_b0 {a0 : Int} {K : Int × hH → Prop} (k0 : ∀ r, K (r) → x = (some (0, r.1), r.2)) {r : Int × hH} (hr : fX12_violationsNow h a0 = some r) (hk : K r) : Wq p l e R s m args below meth c D G A H0 true n0 M_X12_violationsNow x 0 0 0 [(0, (22, a0))] [] h := by
  unfold fX12_violationsNow at hr
  refine r_aload_n dX12_violationsNow_0 rfl 0 rfl (nl rfl) ?_
  refine r_iconst dX12_violationsNow_1 (by decide) ?_
  refine r_scast 0 (v := (0, 1)) (w := (2, 1)) rfl cz (fun _ => Or.inr rfl) (st' := [(2, 1), (22, a0)]) rfl ?_
  obtain ⟨h2, hg2, hr⟩ := bnd hr
  refine k_V (ci := 12) (o := a0) (T := TX12) (as := [(2, 1)]) (rest := []) (X := (none, h2)) (oX12_judgesAll hg2) gX12_judgesAll rfl (by decide) rfl (wsl_45 _ (List.mem_of_getElem? (i := 8) rfl)) rfl dX12_violationsNow_2 rfl ?_
  refine r_aload_n dX12_violationsNow_5 rfl 0 rfl (nl rfl) ?_
  refine r_get 12 26 (o := a0) (w := (0, h2 a0 26)) (T := TX12) (ref := "FollowingRefsModel") rfl (by decide) rfl (by decide) inlX12 (wsl_42 _ (List.mem_of_getElem? (i := 7) rfl)) rfl dX12_violationsNow_6 rfl ?_
  obtain rfl := Option.some.inj hr
  exact r_ret dX12_violationsNow_9 rfl (Or.inl ⟨rfl, rfl⟩) (k0 _ hk) ⟨rfl, rfl⟩
end M_X12_violationsNow
theorem oX12_violationsNow {l : Launch} {D : va_G} {G : gG} {h : hH} {a0 : Int} {r : Int × hH} (hr : fX12_violationsNow h a0 = some r) : Ctr l D G true yX12_violationsNow M_X12_violationsNow [(22, a0)] h (some (0, r.1), r.2) :=
  Ctr_of (by decide) rfl (fun z => by cases z) (nl rfl) (fun {p e R s m args below meth c A H0} => by
    exact oX12_violationsNow_b0 (K := fun z9 => z9 = r) (fun r9 z => by rw [z]) hr rfl)
/-! X12_now -/
theorem dX12_now_0 : decode cX12_now 0 = .ok (.aload_n 0, 1) := by decide +kernel
theorem dX12_now_1 : decode cX12_now 1 = .ok (.iconst 0, 1) := by decide +kernel
theorem dX12_now_2 : decode cX12_now 2 = .ok (.putfield 1, 3) := by decide +kernel
theorem dX12_now_5 : decode cX12_now 5 = .ok (.iload_n 1, 1) := by decide +kernel
theorem dX12_now_6 : decode cX12_now 6 = .ok (.tableswitch 58 0 3 #[30, 35, 44, 53], 30) := by decide +kernel
theorem dX12_now_36 : decode cX12_now 36 = .ok (.aload_n 0, 1) := by decide +kernel
theorem dX12_now_37 : decode cX12_now 37 = .ok (.invokevirtual 414, 3) := by decide +kernel
theorem dX12_now_40 : decode cX12_now 40 = .ok (.ireturn, 1) := by decide +kernel
theorem dX12_now_41 : decode cX12_now 41 = .ok (.aload_n 0, 1) := by decide +kernel
theorem dX12_now_42 : decode cX12_now 42 = .ok (.getfield 33, 3) := by decide +kernel
theorem dX12_now_45 : decode cX12_now 45 = .ok (.sipush 148, 3) := by decide +kernel
theorem dX12_now_48 : decode cX12_now 48 = .ok (.iaload, 1) := by decide +kernel
theorem dX12_now_49 : decode cX12_now 49 = .ok (.ireturn, 1) := by decide +kernel
theorem dX12_now_50 : decode cX12_now 50 = .ok (.aload_n 0, 1) := by decide +kernel
theorem dX12_now_51 : decode cX12_now 51 = .ok (.getfield 33, 3) := by decide +kernel
theorem dX12_now_54 : decode cX12_now 54 = .ok (.sipush 149, 3) := by decide +kernel
theorem dX12_now_57 : decode cX12_now 57 = .ok (.iaload, 1) := by decide +kernel
theorem dX12_now_58 : decode cX12_now 58 = .ok (.ireturn, 1) := by decide +kernel
theorem dX12_now_59 : decode cX12_now 59 = .ok (.aload_n 0, 1) := by decide +kernel
theorem dX12_now_60 : decode cX12_now 60 = .ok (.invokevirtual 486, 3) := by decide +kernel
theorem dX12_now_63 : decode cX12_now 63 = .ok (.ireturn, 1) := by decide +kernel
theorem dX12_now_64 : decode cX12_now 64 = .ok (.iconst (-1), 1) := by decide +kernel
theorem dX12_now_65 : decode cX12_now 65 = .ok (.ireturn, 1) := by decide +kernel
abbrev M_X12_now : mM := (cX12_now, 2, RX12, some .int, false, 6, 139, 0, 0)
theorem gX12_now : cI yX12_now M_X12_now 1 := ⟨(wsl_52 _ (List.mem_of_getElem? (i := 11) rfl)), (wsl_52 _ (List.mem_of_getElem? (i := 12) rfl)), (wsl_1 _ (List.mem_of_getElem? (i := 5) rfl)), (wsl_52 _ (List.mem_of_getElem? (i := 13) rfl)), by decide +kernel⟩
noncomputable def fX12_now (h : hH) (a0 a1 : Int) : Option (Int × hH) :=
  (pput h a0 0 0).bind fun h2 =>
  if a1 = 0 then
    (fX12_rowsNow h2 a0).bind fun r37 =>
    some (r37, h2)
  else
    if a1 = 1 then
      (aget h2 (h2 a0 6) 148).bind fun v48 =>
      some (v48, h2)
    else
      if a1 = 2 then
        (aget h2 (h2 a0 6) 149).bind fun v57 =>
        some (v57, h2)
      else
        if a1 = 3 then
          (fX12_violationsNow h2 a0).bind fun q60 =>
          some (q60.1, q60.2)
        else
          some (-1, h2)
section M_X12_now
variable {p : Program} {l : Launch} {e : Env} {R : Room} {s : State} {m : MethodId} {args : Array Value} {below : List Frame} {meth : Method} {c : Code} {D : va_G} {G : gG} {A : Nat → Prop} {H0 : Heap} {n0 : Int} {x : Option vV × hH} {h : hH}
set_option maxRecDepth 100000 in
set_option maxHeartbeats 4000000 in
theorem oX12_now_b0 {a0 a1 : Int} {K : Int × hH → Prop} (k0 : ∀ r, K (r) → x = (some (0, r.1), r.2)) {r : Int × hH} (hr : fX12_now h a0 a1 = some r) (hk : K r) : Wq p l e R s m args below meth c D G A H0 true n0 M_X12_now x 0 0 0 [(0, (22, a0)), (1, (0, a1))] [] h := by
  unfold fX12_now at hr
  refine r_aload_n dX12_now_0 rfl 0 rfl (nl rfl) ?_
  refine r_iconst dX12_now_1 (by decide) ?_
  obtain ⟨h2, hg2, hr⟩ := bnd hr
  refine r_put' 12 0 (t := 0) (ref := "FollowingRefsModel") hg2 rfl tyX12 tyX12_ok nmX12 rfl (by decide) rfl (by decide) inlX12 (wsl_10 _ (List.mem_of_getElem? (i := 11) rfl)) rfl rfl (by decide +kernel) (by decide) rfl (Or.inl ⟨rfl, rfl⟩) dX12_now_2 ?_
  refine r_iload_n dX12_now_5 rfl 1 rfl (Or.inl rfl) ?_
  by_cases hs0 : a1 = 0
  · have hr := ifp hr hs0
    refine r_tableIn dX12_now_6 (by omega) (by omega) (off := 30) (by rw [hs0]; rfl) (tgt := 36) (by decide) ?_
    refine r_aload_n dX12_now_36 rfl 0 rfl (nl rfl) ?_
    obtain ⟨r37, hg37, hr⟩ := bnd hr
    refine k_V (ci := 12) (o := a0) (T := TX12) (as := []) (rest := []) (X := (some (0, r37), h2)) (oX12_rowsNow hg37) gX12_rowsNow rfl (by decide) rfl (wsl_43 _ (List.mem_of_getElem? (i := 1) rfl)) rfl dX12_now_37 rfl ?_
    obtain rfl := Option.some.inj hr
    exact r_ret dX12_now_40 rfl (Or.inl ⟨rfl, rfl⟩) (k0 _ hk) ⟨rfl, rfl⟩
  have hr := ifn hr hs0
  by_cases hs1 : a1 = 1
  · have hr := ifp hr hs1
    refine r_tableIn dX12_now_6 (by omega) (by omega) (off := 35) (by rw [hs1]; rfl) (tgt := 41) (by decide) ?_
    refine r_aload_n dX12_now_41 rfl 0 rfl (nl rfl) ?_
    refine r_get 12 6 (o := a0) (w := (50, h2 a0 6)) (T := TX12) (ref := "FollowingRefsModel") rfl (by decide) rfl (by decide) inlX12 (wsl_7 _ (List.mem_of_getElem? (i := 8) rfl)) rfl dX12_now_42 rfl ?_
    refine r_sipush dX12_now_45 (by decide) (by decide) ?_
    obtain ⟨v48, hg48, hr⟩ := bnd hr
    refine r_iald dX12_now_48 hg48 ?_
    obtain rfl := Option.some.inj hr
    exact r_ret dX12_now_49 rfl (Or.inl ⟨rfl, rfl⟩) (k0 _ hk) ⟨rfl, rfl⟩
  have hr := ifn hr hs1
  by_cases hs2 : a1 = 2
  · have hr := ifp hr hs2
    refine r_tableIn dX12_now_6 (by omega) (by omega) (off := 44) (by rw [hs2]; rfl) (tgt := 50) (by decide) ?_
    refine r_aload_n dX12_now_50 rfl 0 rfl (nl rfl) ?_
    refine r_get 12 6 (o := a0) (w := (50, h2 a0 6)) (T := TX12) (ref := "FollowingRefsModel") rfl (by decide) rfl (by decide) inlX12 (wsl_7 _ (List.mem_of_getElem? (i := 8) rfl)) rfl dX12_now_51 rfl ?_
    refine r_sipush dX12_now_54 (by decide) (by decide) ?_
    obtain ⟨v57, hg57, hr⟩ := bnd hr
    refine r_iald dX12_now_57 hg57 ?_
    obtain rfl := Option.some.inj hr
    exact r_ret dX12_now_58 rfl (Or.inl ⟨rfl, rfl⟩) (k0 _ hk) ⟨rfl, rfl⟩
  have hr := ifn hr hs2
  by_cases hs3 : a1 = 3
  · have hr := ifp hr hs3
    refine r_tableIn dX12_now_6 (by omega) (by omega) (off := 53) (by rw [hs3]; rfl) (tgt := 59) (by decide) ?_
    refine r_aload_n dX12_now_59 rfl 0 rfl (nl rfl) ?_
    obtain ⟨q60, hg60, hr⟩ := bnd hr
    refine k_V (ci := 12) (o := a0) (T := TX12) (as := []) (rest := []) (X := (some (0, q60.1), q60.2)) (oX12_violationsNow hg60) gX12_violationsNow rfl (by decide) rfl (wsl_52 _ (List.mem_of_getElem? (i := 14) rfl)) rfl dX12_now_60 rfl ?_
    obtain rfl := Option.some.inj hr
    exact r_ret dX12_now_63 rfl (Or.inl ⟨rfl, rfl⟩) (k0 _ hk) ⟨rfl, rfl⟩
  have hr := ifn hr hs3
  refine r_tableOut dX12_now_6 (by omega) (tgt := 64) (by decide) ?_
  refine r_iconst dX12_now_64 (by decide) ?_
  obtain rfl := Option.some.inj hr
  exact r_ret dX12_now_65 rfl (Or.inl ⟨rfl, rfl⟩) (k0 _ hk) ⟨rfl, rfl⟩
end M_X12_now
theorem oX12_now {l : Launch} {D : va_G} {G : gG} {h : hH} {a0 a1 : Int} {r : Int × hH} (hr : fX12_now h a0 a1 = some r) : Ctr l D G true yX12_now M_X12_now [(22, a0), (0, a1)] h (some (0, r.1), r.2) :=
  Ctr_of (by decide) rfl (fun z => by cases z) (nl rfl) (fun {p e R s m args below meth c A H0} => by
    exact oX12_now_b0 (K := fun z9 => z9 = r) (fun r9 z => by rw [z]) hr rfl)
/-! X12_rows -/
theorem dX12_rows_0 : decode cX12_rows 0 = .ok (.aload_n 0, 1) := by decide +kernel
theorem dX12_rows_1 : decode cX12_rows 1 = .ok (.iconst 0, 1) := by decide +kernel
theorem dX12_rows_2 : decode cX12_rows 2 = .ok (.putfield 1, 3) := by decide +kernel
theorem dX12_rows_5 : decode cX12_rows 5 = .ok (.aload_n 0, 1) := by decide +kernel
theorem dX12_rows_6 : decode cX12_rows 6 = .ok (.iload_n 1, 1) := by decide +kernel
theorem dX12_rows_7 : decode cX12_rows 7 = .ok (.invokevirtual 317, 3) := by decide +kernel
theorem dX12_rows_10 : decode cX12_rows 10 = .ok (.ifCond .ne 5, 3) := by decide +kernel
theorem dX12_rows_13 : decode cX12_rows 13 = .ok (.iconst (-1), 1) := by decide +kernel
theorem dX12_rows_14 : decode cX12_rows 14 = .ok (.ireturn, 1) := by decide +kernel
theorem dX12_rows_15 : decode cX12_rows 15 = .ok (.iconst 0, 1) := by decide +kernel
theorem dX12_rows_16 : decode cX12_rows 16 = .ok (.istore_n 2, 1) := by decide +kernel
theorem dX12_rows_17 : decode cX12_rows 17 = .ok (.iconst 0, 1) := by decide +kernel
theorem dX12_rows_18 : decode cX12_rows 18 = .ok (.istore_n 3, 1) := by decide +kernel
theorem dX12_rows_19 : decode cX12_rows 19 = .ok (.iload_n 3, 1) := by decide +kernel
theorem dX12_rows_20 : decode cX12_rows 20 = .ok (.bipush 99, 2) := by decide +kernel
theorem dX12_rows_22 : decode cX12_rows 22 = .ok (.if_icmp .ge 26, 3) := by decide +kernel
theorem dX12_rows_25 : decode cX12_rows 25 = .ok (.iload_n 2, 1) := by decide +kernel
theorem dX12_rows_26 : decode cX12_rows 26 = .ok (.aload_n 0, 1) := by decide +kernel
theorem dX12_rows_27 : decode cX12_rows 27 = .ok (.iload_n 3, 1) := by decide +kernel
theorem dX12_rows_28 : decode cX12_rows 28 = .ok (.iload_n 1, 1) := by decide +kernel
theorem dX12_rows_29 : decode cX12_rows 29 = .ok (.invokevirtual 330, 3) := by decide +kernel
theorem dX12_rows_32 : decode cX12_rows 32 = .ok (.ifCond .eq 7, 3) := by decide +kernel
theorem dX12_rows_35 : decode cX12_rows 35 = .ok (.iconst 1, 1) := by decide +kernel
theorem dX12_rows_36 : decode cX12_rows 36 = .ok (.goto 4, 3) := by decide +kernel
theorem dX12_rows_39 : decode cX12_rows 39 = .ok (.iconst 0, 1) := by decide +kernel
theorem dX12_rows_40 : decode cX12_rows 40 = .ok (.iadd, 1) := by decide +kernel
theorem dX12_rows_41 : decode cX12_rows 41 = .ok (.istore_n 2, 1) := by decide +kernel
theorem dX12_rows_42 : decode cX12_rows 42 = .ok (.iinc 3 1, 3) := by decide +kernel
theorem dX12_rows_45 : decode cX12_rows 45 = .ok (.goto (-26), 3) := by decide +kernel
theorem dX12_rows_48 : decode cX12_rows 48 = .ok (.iload_n 2, 1) := by decide +kernel
theorem dX12_rows_49 : decode cX12_rows 49 = .ok (.ireturn, 1) := by decide +kernel
abbrev M_X12_rows : mM := (cX12_rows, 4, RX12, some .int, false, 2, 43, 0, 0)
theorem gX12_rows : cI yX12_rows M_X12_rows 1 := ⟨(wsl_53 _ (List.mem_of_getElem? (i := 4) rfl)), (wsl_53 _ (List.mem_of_getElem? (i := 5) rfl)), (wsl_1 _ (List.mem_of_getElem? (i := 5) rfl)), (wsl_53 _ (List.mem_of_getElem? (i := 6) rfl)), by decide +kernel⟩
noncomputable def fX12_rows_b40 (h : hH) (a0 a1 l3 s0 s1 : Int) : Option ((Int × Int) ⊕ (Int × hH)) :=
  some (.inl (w32 (s1 + s0), w32 (l3 + 1)))
noncomputable def fX12_rows_s19 (h : hH) (a0 a1 : Int) : Int × Int → Option ((Int × Int) ⊕ (Int × hH)) := fun (l2, l3) =>
  if l3 < 99 then
    (fX12_isRowOf h a0 l3 a1).bind fun r29 =>
    if r29 = 0 then
      fX12_rows_b40 h a0 a1 l3 0 l2
    else
      fX12_rows_b40 h a0 a1 l3 1 l2
  else
    some (.inr ((l2, h)))
noncomputable def fX12_rows (h : hH) (a0 a1 : Int) : Option (Int × hH) :=
  (pput h a0 0 0).bind fun h2 =>
  (fX12_isTable h2 a0 a1).bind fun r7 =>
  if r7 = 0 then
    some (-1, h2)
  else
    lpO (fX12_rows_s19 h2 a0 a1) (0, 0)
section M_X12_rows
variable {p : Program} {l : Launch} {e : Env} {R : Room} {s : State} {m : MethodId} {args : Array Value} {below : List Frame} {meth : Method} {c : Code} {D : va_G} {G : gG} {A : Nat → Prop} {H0 : Heap} {n0 : Int} {x : Option vV × hH} {h : hH}
set_option maxRecDepth 100000 in
set_option maxHeartbeats 4000000 in
theorem oX12_rows_b40 {a0 a1 l3 s0 s1 : Int} {K : (Int × Int) ⊕ (Int × hH) → Prop} (k0 : ∀ r, K (.inr (r)) → x = (some (0, r.1), r.2)) (k1 : ∀ (l2 : Int) (l3 : Int), K (.inl (l2, l3)) → Wq p l e R s m args below meth c D G A H0 true n0 M_X12_rows x 0 0 19 [(0, (22, a0)), (1, (0, a1)), (2, (0, l2)), (3, (0, l3))] [] h) {r : (Int × Int) ⊕ (Int × hH)} (hr : fX12_rows_b40 h a0 a1 l3 s0 s1 = some r) (hk : K r) : Wq p l e R s m args below meth c D G A H0 true n0 M_X12_rows x 0 0 40 [(0, (22, a0)), (1, (0, a1)), (3, (0, l3))] [(2, s0), (0, s1)] h := by
  unfold fX12_rows_b40 at hr
  refine r_scast 0 (v := (2, s0)) (w := (0, s0)) rfl zc hTz (st' := [(0, s0), (0, s1)]) rfl ?_
  refine r_iadd dX12_rows_40 ?_
  refine r_istore_n dX12_rows_41 rfl (Or.inl rfl) (by decide) (lv' := [(2, (0, w32 (s1 + s0))), (0, (22, a0)), (1, (0, a1)), (3, (0, l3))]) rfl ?_
  refine r_iinc (k := 3) (v := l3) dX12_rows_42 rfl (by decide) (lv' := [(3, (0, w32 (l3 + 1))), (2, (0, w32 (s1 + s0))), (0, (22, a0)), (1, (0, a1))]) rfl ?_
  refine r_goto dX12_rows_45 (tgt := 19) (by decide) ?_
  refine r_sub [2, 3, 1, 0] (lv' := [(0, (22, a0)), (1, (0, a1)), (2, (0, w32 (s1 + s0))), (3, (0, w32 (l3 + 1)))]) rfl ?_
  obtain rfl := Option.some.inj hr
  exact k1 _ _ hk
set_option maxRecDepth 100000 in
set_option maxHeartbeats 4000000 in
theorem oX12_rows_s19 {a0 a1 l2 l3 : Int} {K : (Int × Int) ⊕ (Int × hH) → Prop} (k0 : ∀ r, K (.inr (r)) → x = (some (0, r.1), r.2)) (k1 : ∀ (l2 : Int) (l3 : Int), K (.inl (l2, l3)) → Wq p l e R s m args below meth c D G A H0 true n0 M_X12_rows x 0 0 19 [(0, (22, a0)), (1, (0, a1)), (2, (0, l2)), (3, (0, l3))] [] h) {r : (Int × Int) ⊕ (Int × hH)} (hr : fX12_rows_s19 h a0 a1 (l2, l3) = some r) (hk : K r) : Wq p l e R s m args below meth c D G A H0 true n0 M_X12_rows x 0 0 19 [(0, (22, a0)), (1, (0, a1)), (2, (0, l2)), (3, (0, l3))] [] h := by
  unfold fX12_rows_s19 at hr
  refine r_iload_n dX12_rows_19 rfl 3 rfl (Or.inl rfl) ?_
  refine r_bipush dX12_rows_20 (by decide) (by decide) ?_
  refine r_icmp_ge dX12_rows_22 (tgt := 48) (by decide) (fun hc => ?_) (fun hc => ?_)
  · have hr := ifn hr hc
    refine r_iload_n dX12_rows_48 rfl 2 rfl (Or.inl rfl) ?_
    obtain rfl := Option.some.inj hr
    exact r_ret dX12_rows_49 rfl (Or.inl ⟨rfl, rfl⟩) (k0 _ hk) ⟨rfl, rfl⟩
  · have hr := ifp hr hc
    refine r_iload_n dX12_rows_25 rfl 2 rfl (Or.inl rfl) ?_
    refine r_aload_n dX12_rows_26 rfl 0 rfl (nl rfl) ?_
    refine r_iload_n dX12_rows_27 rfl 3 rfl (Or.inl rfl) ?_
    refine r_iload_n dX12_rows_28 rfl 1 rfl (Or.inl rfl) ?_
    obtain ⟨r29, hg29, hr⟩ := bnd hr
    refine k_V (ci := 12) (o := a0) (T := TX12) (as := [(0, l3), (0, a1)]) (rest := [(0, l2)]) (X := (some (2, r29), h)) (oX12_isRowOf hg29) gX12_isRowOf rfl (by decide) rfl (wsl_43 _ (List.mem_of_getElem? (i := 9) rfl)) rfl dX12_rows_29 rfl ?_
    refine r_scast 0 (v := (2, r29)) (w := (0, r29)) rfl zc hTz (st' := [(0, r29), (0, l2)]) rfl ?_
    refine r_if_eq dX12_rows_32 (tgt := 39) (by decide) (fun hc => ?_) (fun hc => ?_)
    · have hr := ifp hr hc
      refine r_iconst dX12_rows_39 (by decide) ?_
      refine r_sub [0, 1, 3] (lv' := [(0, (22, a0)), (1, (0, a1)), (3, (0, l3))]) rfl ?_
      refine r_scast 0 (v := (0, 0)) (w := (2, 0)) rfl cz (fun _ => Or.inl rfl) (st' := [(2, 0), (0, l2)]) rfl ?_
      exact oX12_rows_b40 (K := K) (fun r z => k0 r z) (fun _ _ z => k1 _ _ z) hr hk
    · have hr := ifn hr hc
      refine r_iconst dX12_rows_35 (by decide) ?_
      refine r_goto dX12_rows_36 (tgt := 40) (by decide) ?_
      refine r_sub [0, 1, 3] (lv' := [(0, (22, a0)), (1, (0, a1)), (3, (0, l3))]) rfl ?_
      refine r_scast 0 (v := (0, 1)) (w := (2, 1)) rfl cz (fun _ => Or.inr rfl) (st' := [(2, 1), (0, l2)]) rfl ?_
      exact oX12_rows_b40 (K := K) (fun r z => k0 r z) (fun _ _ z => k1 _ _ z) hr hk
set_option maxRecDepth 100000 in
set_option maxHeartbeats 4000000 in
theorem oX12_rows_b0 {a0 a1 : Int} {K : Int × hH → Prop} (k0 : ∀ r, K (r) → x = (some (0, r.1), r.2)) {r : Int × hH} (hr : fX12_rows h a0 a1 = some r) (hk : K r) : Wq p l e R s m args below meth c D G A H0 true n0 M_X12_rows x 0 0 0 [(0, (22, a0)), (1, (0, a1))] [] h := by
  unfold fX12_rows at hr
  refine r_aload_n dX12_rows_0 rfl 0 rfl (nl rfl) ?_
  refine r_iconst dX12_rows_1 (by decide) ?_
  obtain ⟨h2, hg2, hr⟩ := bnd hr
  refine r_put' 12 0 (t := 0) (ref := "FollowingRefsModel") hg2 rfl tyX12 tyX12_ok nmX12 rfl (by decide) rfl (by decide) inlX12 (wsl_10 _ (List.mem_of_getElem? (i := 11) rfl)) rfl rfl (by decide +kernel) (by decide) rfl (Or.inl ⟨rfl, rfl⟩) dX12_rows_2 ?_
  refine r_aload_n dX12_rows_5 rfl 0 rfl (nl rfl) ?_
  refine r_iload_n dX12_rows_6 rfl 1 rfl (Or.inl rfl) ?_
  obtain ⟨r7, hg7, hr⟩ := bnd hr
  refine k_V (ci := 12) (o := a0) (T := TX12) (as := [(0, a1)]) (rest := []) (X := (some (2, r7), h2)) (oX12_isTable hg7) gX12_isTable rfl (by decide) rfl (wsl_53 _ (List.mem_of_getElem? (i := 7) rfl)) rfl dX12_rows_7 rfl ?_
  refine r_scast 0 (v := (2, r7)) (w := (0, r7)) rfl zc hTz (st' := [(0, r7)]) rfl ?_
  refine r_if_ne dX12_rows_10 (tgt := 15) (by decide) (fun hc => ?_) (fun hc => ?_)
  · have hr := ifn hr hc
    refine r_iconst dX12_rows_15 (by decide) ?_
    refine r_istore_n dX12_rows_16 rfl (Or.inl rfl) (by decide) (lv' := [(2, (0, 0)), (0, (22, a0)), (1, (0, a1))]) rfl ?_
    refine r_iconst dX12_rows_17 (by decide) ?_
    refine r_istore_n dX12_rows_18 rfl (Or.inl rfl) (by decide) (lv' := [(3, (0, 0)), (2, (0, 0)), (0, (22, a0)), (1, (0, a1))]) rfl ?_
    refine r_sub [2, 3, 1, 0] (lv' := [(0, (22, a0)), (1, (0, a1)), (2, (0, 0)), (3, (0, 0))]) rfl ?_
    exact lp_ok (w := fun (q : Int × Int) => Wq p l e R s m args below meth c D G A H0 true n0 M_X12_rows x 0 0 19 [(0, (22, a0)), (1, (0, a1)), (2, (0, q.1)), (3, (0, q.2))] [] (h2)) (K := K) (fun ⟨q0, q1⟩ r z1 z2 => oX12_rows_s19 (K := Sum.elim (fun (q : Int × Int) => Wq p l e R s m args below meth c D G A H0 true n0 M_X12_rows x 0 0 19 [(0, (22, a0)), (1, (0, a1)), (2, (0, q.1)), (3, (0, q.2))] [] (h2)) (K)) (fun r z => k0 r z) (fun _ _ z => z) z1 z2) hr hk
  · have hr := ifp hr hc
    refine r_iconst dX12_rows_13 (by decide) ?_
    obtain rfl := Option.some.inj hr
    exact r_ret dX12_rows_14 rfl (Or.inl ⟨rfl, rfl⟩) (k0 _ hk) ⟨rfl, rfl⟩
end M_X12_rows
theorem oX12_rows {l : Launch} {D : va_G} {G : gG} {h : hH} {a0 a1 : Int} {r : Int × hH} (hr : fX12_rows h a0 a1 = some r) : Ctr l D G true yX12_rows M_X12_rows [(22, a0), (0, a1)] h (some (0, r.1), r.2) :=
  Ctr_of (by decide) rfl (fun z => by cases z) (nl rfl) (fun {p e R s m args below meth c A H0} => by
    exact oX12_rows_b0 (K := fun z9 => z9 = r) (fun r9 z => by rw [z]) hr rfl)
/-! X12_row -/
theorem dX12_row_0 : decode cX12_row 0 = .ok (.aload_n 0, 1) := by decide +kernel
theorem dX12_row_1 : decode cX12_row 1 = .ok (.iconst 0, 1) := by decide +kernel
theorem dX12_row_2 : decode cX12_row 2 = .ok (.putfield 1, 3) := by decide +kernel
theorem dX12_row_5 : decode cX12_row 5 = .ok (.aload_n 0, 1) := by decide +kernel
theorem dX12_row_6 : decode cX12_row 6 = .ok (.iload_n 1, 1) := by decide +kernel
theorem dX12_row_7 : decode cX12_row 7 = .ok (.invokevirtual 317, 3) := by decide +kernel
theorem dX12_row_10 : decode cX12_row 10 = .ok (.ifCond .ne 5, 3) := by decide +kernel
theorem dX12_row_13 : decode cX12_row 13 = .ok (.iconst (-1), 1) := by decide +kernel
theorem dX12_row_14 : decode cX12_row 14 = .ok (.ireturn, 1) := by decide +kernel
theorem dX12_row_15 : decode cX12_row 15 = .ok (.iconst 0, 1) := by decide +kernel
theorem dX12_row_16 : decode cX12_row 16 = .ok (.istore_n 3, 1) := by decide +kernel
theorem dX12_row_17 : decode cX12_row 17 = .ok (.iconst 0, 1) := by decide +kernel
theorem dX12_row_18 : decode cX12_row 18 = .ok (.istore 4, 2) := by decide +kernel
theorem dX12_row_20 : decode cX12_row 20 = .ok (.iload 4, 2) := by decide +kernel
theorem dX12_row_22 : decode cX12_row 22 = .ok (.bipush 99, 2) := by decide +kernel
theorem dX12_row_24 : decode cX12_row 24 = .ok (.if_icmp .ge 33, 3) := by decide +kernel
theorem dX12_row_27 : decode cX12_row 27 = .ok (.aload_n 0, 1) := by decide +kernel
theorem dX12_row_28 : decode cX12_row 28 = .ok (.iload 4, 2) := by decide +kernel
theorem dX12_row_30 : decode cX12_row 30 = .ok (.iload_n 1, 1) := by decide +kernel
theorem dX12_row_31 : decode cX12_row 31 = .ok (.invokevirtual 330, 3) := by decide +kernel
theorem dX12_row_34 : decode cX12_row 34 = .ok (.ifCond .ne 6, 3) := by decide +kernel
theorem dX12_row_37 : decode cX12_row 37 = .ok (.goto 14, 3) := by decide +kernel
theorem dX12_row_40 : decode cX12_row 40 = .ok (.iload_n 3, 1) := by decide +kernel
theorem dX12_row_41 : decode cX12_row 41 = .ok (.iload_n 2, 1) := by decide +kernel
theorem dX12_row_42 : decode cX12_row 42 = .ok (.if_icmp .ne 6, 3) := by decide +kernel
theorem dX12_row_45 : decode cX12_row 45 = .ok (.iload 4, 2) := by decide +kernel
theorem dX12_row_47 : decode cX12_row 47 = .ok (.ireturn, 1) := by decide +kernel
theorem dX12_row_48 : decode cX12_row 48 = .ok (.iinc 3 1, 3) := by decide +kernel
theorem dX12_row_51 : decode cX12_row 51 = .ok (.iinc 4 1, 3) := by decide +kernel
theorem dX12_row_54 : decode cX12_row 54 = .ok (.goto (-34), 3) := by decide +kernel
theorem dX12_row_57 : decode cX12_row 57 = .ok (.iconst (-1), 1) := by decide +kernel
theorem dX12_row_58 : decode cX12_row 58 = .ok (.ireturn, 1) := by decide +kernel
abbrev M_X12_row : mM := (cX12_row, 5, RX12, some .int, false, 2, 43, 0, 0)
theorem gX12_row : cI yX12_row M_X12_row 2 := ⟨(wsl_53 _ (List.mem_of_getElem? (i := 20) rfl)), (wsl_53 _ (List.mem_of_getElem? (i := 21) rfl)), (wsl_1 _ (List.mem_of_getElem? (i := 5) rfl)), (wsl_53 _ (List.mem_of_getElem? (i := 22) rfl)), by decide +kernel⟩
noncomputable def fX12_row_s20 (h : hH) (a0 a1 a2 : Int) : Int × Int → Option ((Int × Int) ⊕ (Int × hH)) := fun (l3, l4) =>
  if l4 < 99 then
    (fX12_isRowOf h a0 l4 a1).bind fun r31 =>
    if r31 = 0 then
      some (.inl (l3, w32 (l4 + 1)))
    else
      if l3 = a2 then
        some (.inr ((l4, h)))
      else
        some (.inl (w32 (l3 + 1), w32 (l4 + 1)))
  else
    some (.inr ((-1, h)))
noncomputable def fX12_row (h : hH) (a0 a1 a2 : Int) : Option (Int × hH) :=
  (pput h a0 0 0).bind fun h2 =>
  (fX12_isTable h2 a0 a1).bind fun r7 =>
  if r7 = 0 then
    some (-1, h2)
  else
    lpO (fX12_row_s20 h2 a0 a1 a2) (0, 0)
section M_X12_row
variable {p : Program} {l : Launch} {e : Env} {R : Room} {s : State} {m : MethodId} {args : Array Value} {below : List Frame} {meth : Method} {c : Code} {D : va_G} {G : gG} {A : Nat → Prop} {H0 : Heap} {n0 : Int} {x : Option vV × hH} {h : hH}
set_option maxRecDepth 100000 in
set_option maxHeartbeats 4000000 in
theorem oX12_row_s20 {a0 a1 a2 l3 l4 : Int} {K : (Int × Int) ⊕ (Int × hH) → Prop} (k0 : ∀ r, K (.inr (r)) → x = (some (0, r.1), r.2)) (k1 : ∀ (l3 : Int) (l4 : Int), K (.inl (l3, l4)) → Wq p l e R s m args below meth c D G A H0 true n0 M_X12_row x 0 0 20 [(0, (22, a0)), (1, (0, a1)), (2, (0, a2)), (3, (0, l3)), (4, (0, l4))] [] h) {r : (Int × Int) ⊕ (Int × hH)} (hr : fX12_row_s20 h a0 a1 a2 (l3, l4) = some r) (hk : K r) : Wq p l e R s m args below meth c D G A H0 true n0 M_X12_row x 0 0 20 [(0, (22, a0)), (1, (0, a1)), (2, (0, a2)), (3, (0, l3)), (4, (0, l4))] [] h := by
  unfold fX12_row_s20 at hr
  refine r_iload dX12_row_20 4 rfl (Or.inl rfl) ?_
  refine r_bipush dX12_row_22 (by decide) (by decide) ?_
  refine r_icmp_ge dX12_row_24 (tgt := 57) (by decide) (fun hc => ?_) (fun hc => ?_)
  · have hr := ifn hr hc
    refine r_iconst dX12_row_57 (by decide) ?_
    obtain rfl := Option.some.inj hr
    exact r_ret dX12_row_58 rfl (Or.inl ⟨rfl, rfl⟩) (k0 _ hk) ⟨rfl, rfl⟩
  · have hr := ifp hr hc
    refine r_aload_n dX12_row_27 rfl 0 rfl (nl rfl) ?_
    refine r_iload dX12_row_28 4 rfl (Or.inl rfl) ?_
    refine r_iload_n dX12_row_30 rfl 1 rfl (Or.inl rfl) ?_
    obtain ⟨r31, hg31, hr⟩ := bnd hr
    refine k_V (ci := 12) (o := a0) (T := TX12) (as := [(0, l4), (0, a1)]) (rest := []) (X := (some (2, r31), h)) (oX12_isRowOf hg31) gX12_isRowOf rfl (by decide) rfl (wsl_43 _ (List.mem_of_getElem? (i := 9) rfl)) rfl dX12_row_31 rfl ?_
    refine r_scast 0 (v := (2, r31)) (w := (0, r31)) rfl zc hTz (st' := [(0, r31)]) rfl ?_
    refine r_if_ne dX12_row_34 (tgt := 40) (by decide) (fun hc => ?_) (fun hc => ?_)
    · have hr := ifn hr hc
      refine r_iload_n dX12_row_40 rfl 3 rfl (Or.inl rfl) ?_
      refine r_iload_n dX12_row_41 rfl 2 rfl (Or.inl rfl) ?_
      refine r_icmp_ne dX12_row_42 (tgt := 48) (by decide) (fun hc => ?_) (fun hc => ?_)
      · have hr := ifn hr hc
        refine r_iinc (k := 3) (v := l3) dX12_row_48 rfl (by decide) (lv' := [(3, (0, w32 (l3 + 1))), (0, (22, a0)), (1, (0, a1)), (2, (0, a2)), (4, (0, l4))]) rfl ?_
        refine r_iinc (k := 4) (v := l4) dX12_row_51 rfl (by decide) (lv' := [(4, (0, w32 (l4 + 1))), (3, (0, w32 (l3 + 1))), (0, (22, a0)), (1, (0, a1)), (2, (0, a2))]) rfl ?_
        refine r_goto dX12_row_54 (tgt := 20) (by decide) ?_
        refine r_sub [2, 3, 4, 1, 0] (lv' := [(0, (22, a0)), (1, (0, a1)), (2, (0, a2)), (3, (0, w32 (l3 + 1))), (4, (0, w32 (l4 + 1)))]) rfl ?_
        obtain rfl := Option.some.inj hr
        exact k1 _ _ hk
      · have hr := ifp hr hc
        refine r_iload dX12_row_45 4 rfl (Or.inl rfl) ?_
        obtain rfl := Option.some.inj hr
        exact r_ret dX12_row_47 rfl (Or.inl ⟨rfl, rfl⟩) (k0 _ hk) ⟨rfl, rfl⟩
    · have hr := ifp hr hc
      refine r_goto dX12_row_37 (tgt := 51) (by decide) ?_
      refine r_iinc (k := 4) (v := l4) dX12_row_51 rfl (by decide) (lv' := [(4, (0, w32 (l4 + 1))), (0, (22, a0)), (1, (0, a1)), (2, (0, a2)), (3, (0, l3))]) rfl ?_
      refine r_goto dX12_row_54 (tgt := 20) (by decide) ?_
      refine r_sub [1, 2, 3, 4, 0] (lv' := [(0, (22, a0)), (1, (0, a1)), (2, (0, a2)), (3, (0, l3)), (4, (0, w32 (l4 + 1)))]) rfl ?_
      obtain rfl := Option.some.inj hr
      exact k1 _ _ hk
set_option maxRecDepth 100000 in
set_option maxHeartbeats 4000000 in
theorem oX12_row_b0 {a0 a1 a2 : Int} {K : Int × hH → Prop} (k0 : ∀ r, K (r) → x = (some (0, r.1), r.2)) {r : Int × hH} (hr : fX12_row h a0 a1 a2 = some r) (hk : K r) : Wq p l e R s m args below meth c D G A H0 true n0 M_X12_row x 0 0 0 [(0, (22, a0)), (1, (0, a1)), (2, (0, a2))] [] h := by
  unfold fX12_row at hr
  refine r_aload_n dX12_row_0 rfl 0 rfl (nl rfl) ?_
  refine r_iconst dX12_row_1 (by decide) ?_
  obtain ⟨h2, hg2, hr⟩ := bnd hr
  refine r_put' 12 0 (t := 0) (ref := "FollowingRefsModel") hg2 rfl tyX12 tyX12_ok nmX12 rfl (by decide) rfl (by decide) inlX12 (wsl_10 _ (List.mem_of_getElem? (i := 11) rfl)) rfl rfl (by decide +kernel) (by decide) rfl (Or.inl ⟨rfl, rfl⟩) dX12_row_2 ?_
  refine r_aload_n dX12_row_5 rfl 0 rfl (nl rfl) ?_
  refine r_iload_n dX12_row_6 rfl 1 rfl (Or.inl rfl) ?_
  obtain ⟨r7, hg7, hr⟩ := bnd hr
  refine k_V (ci := 12) (o := a0) (T := TX12) (as := [(0, a1)]) (rest := []) (X := (some (2, r7), h2)) (oX12_isTable hg7) gX12_isTable rfl (by decide) rfl (wsl_53 _ (List.mem_of_getElem? (i := 7) rfl)) rfl dX12_row_7 rfl ?_
  refine r_scast 0 (v := (2, r7)) (w := (0, r7)) rfl zc hTz (st' := [(0, r7)]) rfl ?_
  refine r_if_ne dX12_row_10 (tgt := 15) (by decide) (fun hc => ?_) (fun hc => ?_)
  · have hr := ifn hr hc
    refine r_iconst dX12_row_15 (by decide) ?_
    refine r_istore_n dX12_row_16 rfl (Or.inl rfl) (by decide) (lv' := [(3, (0, 0)), (0, (22, a0)), (1, (0, a1)), (2, (0, a2))]) rfl ?_
    refine r_iconst dX12_row_17 (by decide) ?_
    refine r_istore dX12_row_18 (Or.inl rfl) (by decide) (lv' := [(4, (0, 0)), (3, (0, 0)), (0, (22, a0)), (1, (0, a1)), (2, (0, a2))]) rfl ?_
    refine r_sub [2, 3, 4, 1, 0] (lv' := [(0, (22, a0)), (1, (0, a1)), (2, (0, a2)), (3, (0, 0)), (4, (0, 0))]) rfl ?_
    exact lp_ok (w := fun (q : Int × Int) => Wq p l e R s m args below meth c D G A H0 true n0 M_X12_row x 0 0 20 [(0, (22, a0)), (1, (0, a1)), (2, (0, a2)), (3, (0, q.1)), (4, (0, q.2))] [] (h2)) (K := K) (fun ⟨q0, q1⟩ r z1 z2 => oX12_row_s20 (K := Sum.elim (fun (q : Int × Int) => Wq p l e R s m args below meth c D G A H0 true n0 M_X12_row x 0 0 20 [(0, (22, a0)), (1, (0, a1)), (2, (0, a2)), (3, (0, q.1)), (4, (0, q.2))] [] (h2)) (K)) (fun r z => k0 r z) (fun _ _ z => z) z1 z2) hr hk
  · have hr := ifp hr hc
    refine r_iconst dX12_row_13 (by decide) ?_
    obtain rfl := Option.some.inj hr
    exact r_ret dX12_row_14 rfl (Or.inl ⟨rfl, rfl⟩) (k0 _ hk) ⟨rfl, rfl⟩
end M_X12_row
theorem oX12_row {l : Launch} {D : va_G} {G : gG} {h : hH} {a0 a1 a2 : Int} {r : Int × hH} (hr : fX12_row h a0 a1 a2 = some r) : Ctr l D G true yX12_row M_X12_row [(22, a0), (0, a1), (0, a2)] h (some (0, r.1), r.2) :=
  Ctr_of (by decide) rfl (fun z => by cases z) (nl rfl) (fun {p e R s m args below meth c A H0} => by
    exact oX12_row_b0 (K := fun z9 => z9 = r) (fun r9 z => by rw [z]) hr rfl)
/-! X12_tableOf -/
theorem dX12_tableOf_0 : decode cX12_tableOf 0 = .ok (.aload_n 0, 1) := by decide +kernel
theorem dX12_tableOf_1 : decode cX12_tableOf 1 = .ok (.iconst 0, 1) := by decide +kernel
theorem dX12_tableOf_2 : decode cX12_tableOf 2 = .ok (.putfield 1, 3) := by decide +kernel
theorem dX12_tableOf_5 : decode cX12_tableOf 5 = .ok (.aload_n 0, 1) := by decide +kernel
theorem dX12_tableOf_6 : decode cX12_tableOf 6 = .ok (.iload_n 1, 1) := by decide +kernel
theorem dX12_tableOf_7 : decode cX12_tableOf 7 = .ok (.invokevirtual 489, 3) := by decide +kernel
theorem dX12_tableOf_10 : decode cX12_tableOf 10 = .ok (.ifCond .eq 16, 3) := by decide +kernel
theorem dX12_tableOf_13 : decode cX12_tableOf 13 = .ok (.aload_n 0, 1) := by decide +kernel
theorem dX12_tableOf_14 : decode cX12_tableOf 14 = .ok (.getfield 33, 3) := by decide +kernel
theorem dX12_tableOf_17 : decode cX12_tableOf 17 = .ok (.sipush 249, 3) := by decide +kernel
theorem dX12_tableOf_20 : decode cX12_tableOf 20 = .ok (.iload_n 1, 1) := by decide +kernel
theorem dX12_tableOf_21 : decode cX12_tableOf 21 = .ok (.iadd, 1) := by decide +kernel
theorem dX12_tableOf_22 : decode cX12_tableOf 22 = .ok (.iaload, 1) := by decide +kernel
theorem dX12_tableOf_23 : decode cX12_tableOf 23 = .ok (.goto 4, 3) := by decide +kernel
theorem dX12_tableOf_26 : decode cX12_tableOf 26 = .ok (.iconst (-1), 1) := by decide +kernel
theorem dX12_tableOf_27 : decode cX12_tableOf 27 = .ok (.ireturn, 1) := by decide +kernel
abbrev M_X12_tableOf : mM := (cX12_tableOf, 2, RX12, some .int, false, 2, 43, 0, 0)
theorem gX12_tableOf : cI yX12_tableOf M_X12_tableOf 1 := ⟨(wsl_54 _ (List.mem_of_getElem? (i := 9) rfl)), (wsl_54 _ (List.mem_of_getElem? (i := 10) rfl)), (wsl_1 _ (List.mem_of_getElem? (i := 5) rfl)), (wsl_54 _ (List.mem_of_getElem? (i := 11) rfl)), by decide +kernel⟩
noncomputable def fX12_tableOf (h : hH) (a0 a1 : Int) : Option (Int × hH) :=
  (pput h a0 0 0).bind fun h2 =>
  (fX12_isRow h2 a0 a1).bind fun r7 =>
  if r7 = 0 then
    some (-1, h2)
  else
    (aget h2 (h2 a0 6) (w32 (249 + a1))).bind fun v22 =>
    some (v22, h2)
section M_X12_tableOf
variable {p : Program} {l : Launch} {e : Env} {R : Room} {s : State} {m : MethodId} {args : Array Value} {below : List Frame} {meth : Method} {c : Code} {D : va_G} {G : gG} {A : Nat → Prop} {H0 : Heap} {n0 : Int} {x : Option vV × hH} {h : hH}
set_option maxRecDepth 100000 in
set_option maxHeartbeats 4000000 in
theorem oX12_tableOf_b0 {a0 a1 : Int} {K : Int × hH → Prop} (k0 : ∀ r, K (r) → x = (some (0, r.1), r.2)) {r : Int × hH} (hr : fX12_tableOf h a0 a1 = some r) (hk : K r) : Wq p l e R s m args below meth c D G A H0 true n0 M_X12_tableOf x 0 0 0 [(0, (22, a0)), (1, (0, a1))] [] h := by
  unfold fX12_tableOf at hr
  refine r_aload_n dX12_tableOf_0 rfl 0 rfl (nl rfl) ?_
  refine r_iconst dX12_tableOf_1 (by decide) ?_
  obtain ⟨h2, hg2, hr⟩ := bnd hr
  refine r_put' 12 0 (t := 0) (ref := "FollowingRefsModel") hg2 rfl tyX12 tyX12_ok nmX12 rfl (by decide) rfl (by decide) inlX12 (wsl_10 _ (List.mem_of_getElem? (i := 11) rfl)) rfl rfl (by decide +kernel) (by decide) rfl (Or.inl ⟨rfl, rfl⟩) dX12_tableOf_2 ?_
  refine r_aload_n dX12_tableOf_5 rfl 0 rfl (nl rfl) ?_
  refine r_iload_n dX12_tableOf_6 rfl 1 rfl (Or.inl rfl) ?_
  obtain ⟨r7, hg7, hr⟩ := bnd hr
  refine k_V (ci := 12) (o := a0) (T := TX12) (as := [(0, a1)]) (rest := []) (X := (some (2, r7), h2)) (oX12_isRow hg7) gX12_isRow rfl (by decide) rfl (wsl_54 _ (List.mem_of_getElem? (i := 12) rfl)) rfl dX12_tableOf_7 rfl ?_
  refine r_scast 0 (v := (2, r7)) (w := (0, r7)) rfl zc hTz (st' := [(0, r7)]) rfl ?_
  refine r_if_eq dX12_tableOf_10 (tgt := 26) (by decide) (fun hc => ?_) (fun hc => ?_)
  · have hr := ifp hr hc
    refine r_iconst dX12_tableOf_26 (by decide) ?_
    obtain rfl := Option.some.inj hr
    exact r_ret dX12_tableOf_27 rfl (Or.inl ⟨rfl, rfl⟩) (k0 _ hk) ⟨rfl, rfl⟩
  · have hr := ifn hr hc
    refine r_aload_n dX12_tableOf_13 rfl 0 rfl (nl rfl) ?_
    refine r_get 12 6 (o := a0) (w := (50, h2 a0 6)) (T := TX12) (ref := "FollowingRefsModel") rfl (by decide) rfl (by decide) inlX12 (wsl_7 _ (List.mem_of_getElem? (i := 8) rfl)) rfl dX12_tableOf_14 rfl ?_
    refine r_sipush dX12_tableOf_17 (by decide) (by decide) ?_
    refine r_iload_n dX12_tableOf_20 rfl 1 rfl (Or.inl rfl) ?_
    refine r_iadd dX12_tableOf_21 ?_
    obtain ⟨v22, hg22, hr⟩ := bnd hr
    refine r_iald dX12_tableOf_22 hg22 ?_
    refine r_goto dX12_tableOf_23 (tgt := 27) (by decide) ?_
    obtain rfl := Option.some.inj hr
    exact r_ret dX12_tableOf_27 rfl (Or.inl ⟨rfl, rfl⟩) (k0 _ hk) ⟨rfl, rfl⟩
end M_X12_tableOf
theorem oX12_tableOf {l : Launch} {D : va_G} {G : gG} {h : hH} {a0 a1 : Int} {r : Int × hH} (hr : fX12_tableOf h a0 a1 = some r) : Ctr l D G true yX12_tableOf M_X12_tableOf [(22, a0), (0, a1)] h (some (0, r.1), r.2) :=
  Ctr_of (by decide) rfl (fun z => by cases z) (nl rfl) (fun {p e R s m args below meth c A H0} => by
    exact oX12_tableOf_b0 (K := fun z9 => z9 = r) (fun r9 z => by rw [z]) hr rfl)
/-! X12_cell -/
theorem dX12_cell_0 : decode cX12_cell 0 = .ok (.aload_n 0, 1) := by decide +kernel
theorem dX12_cell_1 : decode cX12_cell 1 = .ok (.aload_n 0, 1) := by decide +kernel
theorem dX12_cell_2 : decode cX12_cell 2 = .ok (.iload_n 1, 1) := by decide +kernel
theorem dX12_cell_3 : decode cX12_cell 3 = .ok (.invokevirtual 489, 3) := by decide +kernel
theorem dX12_cell_6 : decode cX12_cell 6 = .ok (.ifCond .eq 21, 3) := by decide +kernel
theorem dX12_cell_9 : decode cX12_cell 9 = .ok (.aload_n 0, 1) := by decide +kernel
theorem dX12_cell_10 : decode cX12_cell 10 = .ok (.aload_n 0, 1) := by decide +kernel
theorem dX12_cell_11 : decode cX12_cell 11 = .ok (.getfield 33, 3) := by decide +kernel
theorem dX12_cell_14 : decode cX12_cell 14 = .ok (.sipush 249, 3) := by decide +kernel
theorem dX12_cell_17 : decode cX12_cell 17 = .ok (.iload_n 1, 1) := by decide +kernel
theorem dX12_cell_18 : decode cX12_cell 18 = .ok (.iadd, 1) := by decide +kernel
theorem dX12_cell_19 : decode cX12_cell 19 = .ok (.iaload, 1) := by decide +kernel
theorem dX12_cell_20 : decode cX12_cell 20 = .ok (.iload_n 2, 1) := by decide +kernel
theorem dX12_cell_21 : decode cX12_cell 21 = .ok (.invokevirtual 492, 3) := by decide +kernel
theorem dX12_cell_24 : decode cX12_cell 24 = .ok (.ifCond .ne 7, 3) := by decide +kernel
theorem dX12_cell_27 : decode cX12_cell 27 = .ok (.iconst 1, 1) := by decide +kernel
theorem dX12_cell_28 : decode cX12_cell 28 = .ok (.goto 4, 3) := by decide +kernel
theorem dX12_cell_31 : decode cX12_cell 31 = .ok (.iconst 0, 1) := by decide +kernel
theorem dX12_cell_32 : decode cX12_cell 32 = .ok (.invokevirtual 495, 3) := by decide +kernel
theorem dX12_cell_35 : decode cX12_cell 35 = .ok (.ifCond .eq 5, 3) := by decide +kernel
theorem dX12_cell_38 : decode cX12_cell 38 = .ok (.iconst 0, 1) := by decide +kernel
theorem dX12_cell_39 : decode cX12_cell 39 = .ok (.ireturn, 1) := by decide +kernel
theorem dX12_cell_40 : decode cX12_cell 40 = .ok (.aload_n 0, 1) := by decide +kernel
theorem dX12_cell_41 : decode cX12_cell 41 = .ok (.iload_n 1, 1) := by decide +kernel
theorem dX12_cell_42 : decode cX12_cell 42 = .ok (.iload_n 2, 1) := by decide +kernel
theorem dX12_cell_43 : decode cX12_cell 43 = .ok (.invokevirtual 320, 3) := by decide +kernel
theorem dX12_cell_46 : decode cX12_cell 46 = .ok (.ireturn, 1) := by decide +kernel
abbrev M_X12_cell : mM := (cX12_cell, 3, RX12, some .int, false, 3, 65, 0, 0)
theorem gX12_cell : cI yX12_cell M_X12_cell 2 := ⟨(wsl_55 _ (List.mem_of_getElem? (i := 6) rfl)), (wsl_55 _ (List.mem_of_getElem? (i := 7) rfl)), (wsl_1 _ (List.mem_of_getElem? (i := 5) rfl)), (wsl_55 _ (List.mem_of_getElem? (i := 8) rfl)), by decide +kernel⟩
noncomputable def fX12_cell_b32 (h : hH) (a0 a1 a2 s0 s1 : Int) : Option (Int × hH) :=
  (fX12_throwsIf h s1 s0).bind fun q32 =>
  if q32.1 = 0 then
    (fX12_cellOf q32.2 a0 a1 a2).bind fun r43 =>
    some (r43, q32.2)
  else
    some (0, q32.2)
noncomputable def fX12_cell_b27 (h : hH) (a0 a1 a2 s0 : Int) : Option (Int × hH) :=
  fX12_cell_b32 h a0 a1 a2 1 s0
noncomputable def fX12_cell (h : hH) (a0 a1 a2 : Int) : Option (Int × hH) :=
  (fX12_isRow h a0 a1).bind fun r3 =>
  if r3 = 0 then
    fX12_cell_b27 h a0 a1 a2 a0
  else
    (aget h (h a0 6) (w32 (249 + a1))).bind fun v19 =>
    (fX12_isCol h a0 v19 a2).bind fun r21 =>
    if r21 = 0 then
      fX12_cell_b27 h a0 a1 a2 a0
    else
      fX12_cell_b32 h a0 a1 a2 0 a0
section M_X12_cell
variable {p : Program} {l : Launch} {e : Env} {R : Room} {s : State} {m : MethodId} {args : Array Value} {below : List Frame} {meth : Method} {c : Code} {D : va_G} {G : gG} {A : Nat → Prop} {H0 : Heap} {n0 : Int} {x : Option vV × hH} {h : hH}
set_option maxRecDepth 100000 in
set_option maxHeartbeats 4000000 in
theorem oX12_cell_b32 {a0 a1 a2 s0 s1 : Int} {K : Int × hH → Prop} (k0 : ∀ r, K (r) → x = (some (0, r.1), r.2)) {r : Int × hH} (hr : fX12_cell_b32 h a0 a1 a2 s0 s1 = some r) (hk : K r) : Wq p l e R s m args below meth c D G A H0 true n0 M_X12_cell x 0 0 32 [(0, (22, a0)), (1, (0, a1)), (2, (0, a2))] [(2, s0), (22, s1)] h := by
  unfold fX12_cell_b32 at hr
  obtain ⟨q32, hg32, hr⟩ := bnd hr
  refine k_V (ci := 12) (o := s1) (T := TX12) (as := [(2, s0)]) (rest := []) (X := (some (2, q32.1), q32.2)) (oX12_throwsIf hg32) gX12_throwsIf rfl (by decide) rfl (wsl_55 _ (List.mem_of_getElem? (i := 13) rfl)) rfl dX12_cell_32 rfl ?_
  refine r_scast 0 (v := (2, q32.1)) (w := (0, q32.1)) rfl zc hTz (st' := [(0, q32.1)]) rfl ?_
  refine r_if_eq dX12_cell_35 (tgt := 40) (by decide) (fun hc => ?_) (fun hc => ?_)
  · have hr := ifp hr hc
    refine r_aload_n dX12_cell_40 rfl 0 rfl (nl rfl) ?_
    refine r_iload_n dX12_cell_41 rfl 1 rfl (Or.inl rfl) ?_
    refine r_iload_n dX12_cell_42 rfl 2 rfl (Or.inl rfl) ?_
    obtain ⟨r43, hg43, hr⟩ := bnd hr
    refine k_V (ci := 12) (o := a0) (T := TX12) (as := [(0, a1), (0, a2)]) (rest := []) (X := (some (0, r43), q32.2)) (oX12_cellOf hg43) gX12_cellOf rfl (by decide) rfl (wsl_42 _ (List.mem_of_getElem? (i := 17) rfl)) rfl dX12_cell_43 rfl ?_
    obtain rfl := Option.some.inj hr
    exact r_ret dX12_cell_46 rfl (Or.inl ⟨rfl, rfl⟩) (k0 _ hk) ⟨rfl, rfl⟩
  · have hr := ifn hr hc
    refine r_iconst dX12_cell_38 (by decide) ?_
    obtain rfl := Option.some.inj hr
    exact r_ret dX12_cell_39 rfl (Or.inl ⟨rfl, rfl⟩) (k0 _ hk) ⟨rfl, rfl⟩
set_option maxRecDepth 100000 in
set_option maxHeartbeats 4000000 in
theorem oX12_cell_b27 {a0 a1 a2 s0 : Int} {K : Int × hH → Prop} (k0 : ∀ r, K (r) → x = (some (0, r.1), r.2)) {r : Int × hH} (hr : fX12_cell_b27 h a0 a1 a2 s0 = some r) (hk : K r) : Wq p l e R s m args below meth c D G A H0 true n0 M_X12_cell x 0 0 27 [(0, (22, a0)), (1, (0, a1)), (2, (0, a2))] [(22, s0)] h := by
  unfold fX12_cell_b27 at hr
  refine r_iconst dX12_cell_27 (by decide) ?_
  refine r_goto dX12_cell_28 (tgt := 32) (by decide) ?_
  refine r_scast 0 (v := (0, 1)) (w := (2, 1)) rfl cz (fun _ => Or.inr rfl) (st' := [(2, 1), (22, s0)]) rfl ?_
  exact oX12_cell_b32 (K := K) (fun r z => k0 r z) hr hk
set_option maxRecDepth 100000 in
set_option maxHeartbeats 4000000 in
theorem oX12_cell_b0 {a0 a1 a2 : Int} {K : Int × hH → Prop} (k0 : ∀ r, K (r) → x = (some (0, r.1), r.2)) {r : Int × hH} (hr : fX12_cell h a0 a1 a2 = some r) (hk : K r) : Wq p l e R s m args below meth c D G A H0 true n0 M_X12_cell x 0 0 0 [(0, (22, a0)), (1, (0, a1)), (2, (0, a2))] [] h := by
  unfold fX12_cell at hr
  refine r_aload_n dX12_cell_0 rfl 0 rfl (nl rfl) ?_
  refine r_aload_n dX12_cell_1 rfl 0 rfl (nl rfl) ?_
  refine r_iload_n dX12_cell_2 rfl 1 rfl (Or.inl rfl) ?_
  obtain ⟨r3, hg3, hr⟩ := bnd hr
  refine k_V (ci := 12) (o := a0) (T := TX12) (as := [(0, a1)]) (rest := [(22, a0)]) (X := (some (2, r3), h)) (oX12_isRow hg3) gX12_isRow rfl (by decide) rfl (wsl_54 _ (List.mem_of_getElem? (i := 12) rfl)) rfl dX12_cell_3 rfl ?_
  refine r_scast 0 (v := (2, r3)) (w := (0, r3)) rfl zc hTz (st' := [(0, r3), (22, a0)]) rfl ?_
  refine r_if_eq dX12_cell_6 (tgt := 27) (by decide) (fun hc => ?_) (fun hc => ?_)
  · have hr := ifp hr hc
    exact oX12_cell_b27 (K := K) (fun r z => k0 r z) hr hk
  · have hr := ifn hr hc
    refine r_aload_n dX12_cell_9 rfl 0 rfl (nl rfl) ?_
    refine r_aload_n dX12_cell_10 rfl 0 rfl (nl rfl) ?_
    refine r_get 12 6 (o := a0) (w := (50, h a0 6)) (T := TX12) (ref := "FollowingRefsModel") rfl (by decide) rfl (by decide) inlX12 (wsl_7 _ (List.mem_of_getElem? (i := 8) rfl)) rfl dX12_cell_11 rfl ?_
    refine r_sipush dX12_cell_14 (by decide) (by decide) ?_
    refine r_iload_n dX12_cell_17 rfl 1 rfl (Or.inl rfl) ?_
    refine r_iadd dX12_cell_18 ?_
    obtain ⟨v19, hg19, hr⟩ := bnd hr
    refine r_iald dX12_cell_19 hg19 ?_
    refine r_iload_n dX12_cell_20 rfl 2 rfl (Or.inl rfl) ?_
    obtain ⟨r21, hg21, hr⟩ := bnd hr
    refine k_V (ci := 12) (o := a0) (T := TX12) (as := [(0, v19), (0, a2)]) (rest := [(22, a0)]) (X := (some (2, r21), h)) (oX12_isCol hg21) gX12_isCol rfl (by decide) rfl (wsl_55 _ (List.mem_of_getElem? (i := 9) rfl)) rfl dX12_cell_21 rfl ?_
    refine r_scast 0 (v := (2, r21)) (w := (0, r21)) rfl zc hTz (st' := [(0, r21), (22, a0)]) rfl ?_
    refine r_if_ne dX12_cell_24 (tgt := 31) (by decide) (fun hc => ?_) (fun hc => ?_)
    · have hr := ifn hr hc
      refine r_iconst dX12_cell_31 (by decide) ?_
      refine r_scast 0 (v := (0, 0)) (w := (2, 0)) rfl cz (fun _ => Or.inl rfl) (st' := [(2, 0), (22, a0)]) rfl ?_
      exact oX12_cell_b32 (K := K) (fun r z => k0 r z) hr hk
    · have hr := ifp hr hc
      exact oX12_cell_b27 (K := K) (fun r z => k0 r z) hr hk
end M_X12_cell
theorem oX12_cell {l : Launch} {D : va_G} {G : gG} {h : hH} {a0 a1 a2 : Int} {r : Int × hH} (hr : fX12_cell h a0 a1 a2 = some r) : Ctr l D G true yX12_cell M_X12_cell [(22, a0), (0, a1), (0, a2)] h (some (0, r.1), r.2) :=
  Ctr_of (by decide) rfl (fun z => by cases z) (nl rfl) (fun {p e R s m args below meth c A H0} => by
    exact oX12_cell_b0 (K := fun z9 => z9 = r) (fun r9 z => by rw [z]) hr rfl)
/-! X12_refers -/
theorem dX12_refers_0 : decode cX12_refers 0 = .ok (.aload_n 0, 1) := by decide +kernel
theorem dX12_refers_1 : decode cX12_refers 1 = .ok (.iconst 0, 1) := by decide +kernel
theorem dX12_refers_2 : decode cX12_refers 2 = .ok (.putfield 1, 3) := by decide +kernel
theorem dX12_refers_5 : decode cX12_refers 5 = .ok (.aload_n 0, 1) := by decide +kernel
theorem dX12_refers_6 : decode cX12_refers 6 = .ok (.iload_n 1, 1) := by decide +kernel
theorem dX12_refers_7 : decode cX12_refers 7 = .ok (.invokevirtual 489, 3) := by decide +kernel
theorem dX12_refers_10 : decode cX12_refers 10 = .ok (.ifCond .eq 50, 3) := by decide +kernel
theorem dX12_refers_13 : decode cX12_refers 13 = .ok (.iload_n 2, 1) := by decide +kernel
theorem dX12_refers_14 : decode cX12_refers 14 = .ok (.iconst 0, 1) := by decide +kernel
theorem dX12_refers_15 : decode cX12_refers 15 = .ok (.aload_n 0, 1) := by decide +kernel
theorem dX12_refers_16 : decode cX12_refers 16 = .ok (.getfield 33, 3) := by decide +kernel
theorem dX12_refers_19 : decode cX12_refers 19 = .ok (.iconst 2, 1) := by decide +kernel
theorem dX12_refers_20 : decode cX12_refers 20 = .ok (.iaload, 1) := by decide +kernel
theorem dX12_refers_21 : decode cX12_refers 21 = .ok (.iconst 1, 1) := by decide +kernel
theorem dX12_refers_22 : decode cX12_refers 22 = .ok (.isub, 1) := by decide +kernel
theorem dX12_refers_23 : decode cX12_refers 23 = .ok (.invokestatic 229, 3) := by decide +kernel
theorem dX12_refers_26 : decode cX12_refers 26 = .ok (.ifCond .eq 34, 3) := by decide +kernel
theorem dX12_refers_29 : decode cX12_refers 29 = .ok (.aload_n 0, 1) := by decide +kernel
theorem dX12_refers_30 : decode cX12_refers 30 = .ok (.getfield 33, 3) := by decide +kernel
theorem dX12_refers_33 : decode cX12_refers 33 = .ok (.bipush 58, 2) := by decide +kernel
theorem dX12_refers_35 : decode cX12_refers 35 = .ok (.iload_n 2, 1) := by decide +kernel
theorem dX12_refers_36 : decode cX12_refers 36 = .ok (.iadd, 1) := by decide +kernel
theorem dX12_refers_37 : decode cX12_refers 37 = .ok (.iaload, 1) := by decide +kernel
theorem dX12_refers_38 : decode cX12_refers 38 = .ok (.aload_n 0, 1) := by decide +kernel
theorem dX12_refers_39 : decode cX12_refers 39 = .ok (.getfield 33, 3) := by decide +kernel
theorem dX12_refers_42 : decode cX12_refers 42 = .ok (.sipush 249, 3) := by decide +kernel
theorem dX12_refers_45 : decode cX12_refers 45 = .ok (.iload_n 1, 1) := by decide +kernel
theorem dX12_refers_46 : decode cX12_refers 46 = .ok (.iadd, 1) := by decide +kernel
theorem dX12_refers_47 : decode cX12_refers 47 = .ok (.iaload, 1) := by decide +kernel
theorem dX12_refers_48 : decode cX12_refers 48 = .ok (.if_icmp .ne 12, 3) := by decide +kernel
theorem dX12_refers_51 : decode cX12_refers 51 = .ok (.aload_n 0, 1) := by decide +kernel
theorem dX12_refers_52 : decode cX12_refers 52 = .ok (.iload_n 1, 1) := by decide +kernel
theorem dX12_refers_53 : decode cX12_refers 53 = .ok (.iload_n 2, 1) := by decide +kernel
theorem dX12_refers_54 : decode cX12_refers 54 = .ok (.invokevirtual 333, 3) := by decide +kernel
theorem dX12_refers_57 : decode cX12_refers 57 = .ok (.goto 4, 3) := by decide +kernel
theorem dX12_refers_60 : decode cX12_refers 60 = .ok (.iconst (-1), 1) := by decide +kernel
theorem dX12_refers_61 : decode cX12_refers 61 = .ok (.ireturn, 1) := by decide +kernel
abbrev M_X12_refers : mM := (cX12_refers, 3, RX12, some .int, false, 3, 71, 0, 0)
theorem gX12_refers : cI yX12_refers M_X12_refers 2 := ⟨(wsl_56 _ (List.mem_of_getElem? (i := 5) rfl)), (wsl_56 _ (List.mem_of_getElem? (i := 6) rfl)), (wsl_1 _ (List.mem_of_getElem? (i := 5) rfl)), (wsl_56 _ (List.mem_of_getElem? (i := 7) rfl)), by decide +kernel⟩
noncomputable def fX12_refers (h : hH) (a0 a1 a2 : Int) : Option (Int × hH) :=
  (pput h a0 0 0).bind fun h2 =>
  (fX12_isRow h2 a0 a1).bind fun r7 =>
  if r7 = 0 then
    some (-1, h2)
  else
    (aget h2 (h2 a0 6) 2).bind fun v20 =>
    (fX12_isIn h2 a2 0 (w32 (v20 - 1))).bind fun r23 =>
    if r23 = 0 then
      some (-1, h2)
    else
      (aget h2 (h2 a0 6) (w32 (58 + a2))).bind fun v37 =>
      (aget h2 (h2 a0 6) (w32 (249 + a1))).bind fun v47 =>
      if v37 = v47 then
        (fX12_target h2 a0 a1 a2).bind fun r54 =>
        some (r54, h2)
      else
        some (-1, h2)
section M_X12_refers
variable {p : Program} {l : Launch} {e : Env} {R : Room} {s : State} {m : MethodId} {args : Array Value} {below : List Frame} {meth : Method} {c : Code} {D : va_G} {G : gG} {A : Nat → Prop} {H0 : Heap} {n0 : Int} {x : Option vV × hH} {h : hH}
set_option maxRecDepth 100000 in
set_option maxHeartbeats 4000000 in
theorem oX12_refers_b0 {a0 a1 a2 : Int} {K : Int × hH → Prop} (k0 : ∀ r, K (r) → x = (some (0, r.1), r.2)) {r : Int × hH} (hr : fX12_refers h a0 a1 a2 = some r) (hk : K r) : Wq p l e R s m args below meth c D G A H0 true n0 M_X12_refers x 0 0 0 [(0, (22, a0)), (1, (0, a1)), (2, (0, a2))] [] h := by
  unfold fX12_refers at hr
  refine r_aload_n dX12_refers_0 rfl 0 rfl (nl rfl) ?_
  refine r_iconst dX12_refers_1 (by decide) ?_
  obtain ⟨h2, hg2, hr⟩ := bnd hr
  refine r_put' 12 0 (t := 0) (ref := "FollowingRefsModel") hg2 rfl tyX12 tyX12_ok nmX12 rfl (by decide) rfl (by decide) inlX12 (wsl_10 _ (List.mem_of_getElem? (i := 11) rfl)) rfl rfl (by decide +kernel) (by decide) rfl (Or.inl ⟨rfl, rfl⟩) dX12_refers_2 ?_
  refine r_aload_n dX12_refers_5 rfl 0 rfl (nl rfl) ?_
  refine r_iload_n dX12_refers_6 rfl 1 rfl (Or.inl rfl) ?_
  obtain ⟨r7, hg7, hr⟩ := bnd hr
  refine k_V (ci := 12) (o := a0) (T := TX12) (as := [(0, a1)]) (rest := []) (X := (some (2, r7), h2)) (oX12_isRow hg7) gX12_isRow rfl (by decide) rfl (wsl_54 _ (List.mem_of_getElem? (i := 12) rfl)) rfl dX12_refers_7 rfl ?_
  refine r_scast 0 (v := (2, r7)) (w := (0, r7)) rfl zc hTz (st' := [(0, r7)]) rfl ?_
  refine r_if_eq dX12_refers_10 (tgt := 60) (by decide) (fun hc => ?_) (fun hc => ?_)
  · have hr := ifp hr hc
    refine r_iconst dX12_refers_60 (by decide) ?_
    obtain rfl := Option.some.inj hr
    exact r_ret dX12_refers_61 rfl (Or.inl ⟨rfl, rfl⟩) (k0 _ hk) ⟨rfl, rfl⟩
  · have hr := ifn hr hc
    refine r_iload_n dX12_refers_13 rfl 2 rfl (Or.inl rfl) ?_
    refine r_iconst dX12_refers_14 (by decide) ?_
    refine r_aload_n dX12_refers_15 rfl 0 rfl (nl rfl) ?_
    refine r_get 12 6 (o := a0) (w := (50, h2 a0 6)) (T := TX12) (ref := "FollowingRefsModel") rfl (by decide) rfl (by decide) inlX12 (wsl_7 _ (List.mem_of_getElem? (i := 8) rfl)) rfl dX12_refers_16 rfl ?_
    refine r_iconst dX12_refers_19 (by decide) ?_
    obtain ⟨v20, hg20, hr⟩ := bnd hr
    refine r_iald dX12_refers_20 hg20 ?_
    refine r_iconst dX12_refers_21 (by decide) ?_
    refine r_isub dX12_refers_22 ?_
    obtain ⟨r23, hg23, hr⟩ := bnd hr
    refine k_S (as := [(0, a2), (0, 0), (0, w32 (v20 - 1))]) (rest := []) (X := (some (2, r23), h2)) (oX12_isIn hg23) gX12_isIn rfl (wsl_28 _ (List.mem_of_getElem? (i := 1) rfl)) rfl dX12_refers_23 rfl ?_
    refine r_scast 0 (v := (2, r23)) (w := (0, r23)) rfl zc hTz (st' := [(0, r23)]) rfl ?_
    refine r_if_eq dX12_refers_26 (tgt := 60) (by decide) (fun hc => ?_) (fun hc => ?_)
    · have hr := ifp hr hc
      refine r_iconst dX12_refers_60 (by decide) ?_
      obtain rfl := Option.some.inj hr
      exact r_ret dX12_refers_61 rfl (Or.inl ⟨rfl, rfl⟩) (k0 _ hk) ⟨rfl, rfl⟩
    · have hr := ifn hr hc
      refine r_aload_n dX12_refers_29 rfl 0 rfl (nl rfl) ?_
      refine r_get 12 6 (o := a0) (w := (50, h2 a0 6)) (T := TX12) (ref := "FollowingRefsModel") rfl (by decide) rfl (by decide) inlX12 (wsl_7 _ (List.mem_of_getElem? (i := 8) rfl)) rfl dX12_refers_30 rfl ?_
      refine r_bipush dX12_refers_33 (by decide) (by decide) ?_
      refine r_iload_n dX12_refers_35 rfl 2 rfl (Or.inl rfl) ?_
      refine r_iadd dX12_refers_36 ?_
      obtain ⟨v37, hg37, hr⟩ := bnd hr
      refine r_iald dX12_refers_37 hg37 ?_
      refine r_aload_n dX12_refers_38 rfl 0 rfl (nl rfl) ?_
      refine r_get 12 6 (o := a0) (w := (50, h2 a0 6)) (T := TX12) (ref := "FollowingRefsModel") rfl (by decide) rfl (by decide) inlX12 (wsl_7 _ (List.mem_of_getElem? (i := 8) rfl)) rfl dX12_refers_39 rfl ?_
      refine r_sipush dX12_refers_42 (by decide) (by decide) ?_
      refine r_iload_n dX12_refers_45 rfl 1 rfl (Or.inl rfl) ?_
      refine r_iadd dX12_refers_46 ?_
      obtain ⟨v47, hg47, hr⟩ := bnd hr
      refine r_iald dX12_refers_47 hg47 ?_
      refine r_icmp_ne dX12_refers_48 (tgt := 60) (by decide) (fun hc => ?_) (fun hc => ?_)
      · have hr := ifn hr hc
        refine r_iconst dX12_refers_60 (by decide) ?_
        obtain rfl := Option.some.inj hr
        exact r_ret dX12_refers_61 rfl (Or.inl ⟨rfl, rfl⟩) (k0 _ hk) ⟨rfl, rfl⟩
      · have hr := ifp hr hc
        refine r_aload_n dX12_refers_51 rfl 0 rfl (nl rfl) ?_
        refine r_iload_n dX12_refers_52 rfl 1 rfl (Or.inl rfl) ?_
        refine r_iload_n dX12_refers_53 rfl 2 rfl (Or.inl rfl) ?_
        obtain ⟨r54, hg54, hr⟩ := bnd hr
        refine k_V (ci := 12) (o := a0) (T := TX12) (as := [(0, a1), (0, a2)]) (rest := []) (X := (some (0, r54), h2)) (oX12_target hg54) gX12_target rfl (by decide) rfl (wsl_42 _ (List.mem_of_getElem? (i := 13) rfl)) rfl dX12_refers_54 rfl ?_
        refine r_goto dX12_refers_57 (tgt := 61) (by decide) ?_
        obtain rfl := Option.some.inj hr
        exact r_ret dX12_refers_61 rfl (Or.inl ⟨rfl, rfl⟩) (k0 _ hk) ⟨rfl, rfl⟩
end M_X12_refers
theorem oX12_refers {l : Launch} {D : va_G} {G : gG} {h : hH} {a0 a1 a2 : Int} {r : Int × hH} (hr : fX12_refers h a0 a1 a2 = some r) : Ctr l D G true yX12_refers M_X12_refers [(22, a0), (0, a1), (0, a2)] h (some (0, r.1), r.2) :=
  Ctr_of (by decide) rfl (fun z => by cases z) (nl rfl) (fun {p e R s m args below meth c A H0} => by
    exact oX12_refers_b0 (K := fun z9 => z9 = r) (fun r9 z => by rw [z]) hr rfl)
/-! X12_referredTo -/
theorem dX12_referredTo_0 : decode cX12_referredTo 0 = .ok (.iconst 0, 1) := by decide +kernel
theorem dX12_referredTo_1 : decode cX12_referredTo 1 = .ok (.istore_n 2, 1) := by decide +kernel
theorem dX12_referredTo_2 : decode cX12_referredTo 2 = .ok (.iconst 0, 1) := by decide +kernel
theorem dX12_referredTo_3 : decode cX12_referredTo 3 = .ok (.istore_n 3, 1) := by decide +kernel
theorem dX12_referredTo_4 : decode cX12_referredTo 4 = .ok (.iload_n 3, 1) := by decide +kernel
theorem dX12_referredTo_5 : decode cX12_referredTo 5 = .ok (.aload_n 0, 1) := by decide +kernel
theorem dX12_referredTo_6 : decode cX12_referredTo 6 = .ok (.getfield 33, 3) := by decide +kernel
theorem dX12_referredTo_9 : decode cX12_referredTo 9 = .ok (.iconst 2, 1) := by decide +kernel
theorem dX12_referredTo_10 : decode cX12_referredTo 10 = .ok (.iaload, 1) := by decide +kernel
theorem dX12_referredTo_11 : decode cX12_referredTo 11 = .ok (.if_icmp .ge 62, 3) := by decide +kernel
theorem dX12_referredTo_14 : decode cX12_referredTo 14 = .ok (.iconst 0, 1) := by decide +kernel
theorem dX12_referredTo_15 : decode cX12_referredTo 15 = .ok (.istore 4, 2) := by decide +kernel
theorem dX12_referredTo_17 : decode cX12_referredTo 17 = .ok (.iload 4, 2) := by decide +kernel
theorem dX12_referredTo_19 : decode cX12_referredTo 19 = .ok (.bipush 99, 2) := by decide +kernel
theorem dX12_referredTo_21 : decode cX12_referredTo 21 = .ok (.if_icmp .ge 46, 3) := by decide +kernel
theorem dX12_referredTo_24 : decode cX12_referredTo 24 = .ok (.iload_n 2, 1) := by decide +kernel
theorem dX12_referredTo_25 : decode cX12_referredTo 25 = .ok (.aload_n 0, 1) := by decide +kernel
theorem dX12_referredTo_26 : decode cX12_referredTo 26 = .ok (.iload 4, 2) := by decide +kernel
theorem dX12_referredTo_28 : decode cX12_referredTo 28 = .ok (.aload_n 0, 1) := by decide +kernel
theorem dX12_referredTo_29 : decode cX12_referredTo 29 = .ok (.getfield 33, 3) := by decide +kernel
theorem dX12_referredTo_32 : decode cX12_referredTo 32 = .ok (.bipush 58, 2) := by decide +kernel
theorem dX12_referredTo_34 : decode cX12_referredTo 34 = .ok (.iload_n 3, 1) := by decide +kernel
theorem dX12_referredTo_35 : decode cX12_referredTo 35 = .ok (.iadd, 1) := by decide +kernel
theorem dX12_referredTo_36 : decode cX12_referredTo 36 = .ok (.iaload, 1) := by decide +kernel
theorem dX12_referredTo_37 : decode cX12_referredTo 37 = .ok (.invokevirtual 330, 3) := by decide +kernel
theorem dX12_referredTo_40 : decode cX12_referredTo 40 = .ok (.ifCond .eq 18, 3) := by decide +kernel
theorem dX12_referredTo_43 : decode cX12_referredTo 43 = .ok (.aload_n 0, 1) := by decide +kernel
theorem dX12_referredTo_44 : decode cX12_referredTo 44 = .ok (.iload 4, 2) := by decide +kernel
theorem dX12_referredTo_46 : decode cX12_referredTo 46 = .ok (.iload_n 3, 1) := by decide +kernel
theorem dX12_referredTo_47 : decode cX12_referredTo 47 = .ok (.invokevirtual 333, 3) := by decide +kernel
theorem dX12_referredTo_50 : decode cX12_referredTo 50 = .ok (.iload_n 1, 1) := by decide +kernel
theorem dX12_referredTo_51 : decode cX12_referredTo 51 = .ok (.if_icmp .ne 7, 3) := by decide +kernel
theorem dX12_referredTo_54 : decode cX12_referredTo 54 = .ok (.iconst 1, 1) := by decide +kernel
theorem dX12_referredTo_55 : decode cX12_referredTo 55 = .ok (.goto 4, 3) := by decide +kernel
theorem dX12_referredTo_58 : decode cX12_referredTo 58 = .ok (.iconst 0, 1) := by decide +kernel
theorem dX12_referredTo_59 : decode cX12_referredTo 59 = .ok (.iadd, 1) := by decide +kernel
theorem dX12_referredTo_60 : decode cX12_referredTo 60 = .ok (.istore_n 2, 1) := by decide +kernel
theorem dX12_referredTo_61 : decode cX12_referredTo 61 = .ok (.iinc 4 1, 3) := by decide +kernel
theorem dX12_referredTo_64 : decode cX12_referredTo 64 = .ok (.goto (-47), 3) := by decide +kernel
theorem dX12_referredTo_67 : decode cX12_referredTo 67 = .ok (.iinc 3 1, 3) := by decide +kernel
theorem dX12_referredTo_70 : decode cX12_referredTo 70 = .ok (.goto (-66), 3) := by decide +kernel
theorem dX12_referredTo_73 : decode cX12_referredTo 73 = .ok (.iload_n 2, 1) := by decide +kernel
theorem dX12_referredTo_74 : decode cX12_referredTo 74 = .ok (.ireturn, 1) := by decide +kernel
abbrev M_X12_referredTo : mM := (cX12_referredTo, 5, RX12, some .int, false, 3, 71, 0, 0)
theorem gX12_referredTo : cI yX12_referredTo M_X12_referredTo 1 := ⟨(wsl_56 _ (List.mem_of_getElem? (i := 23) rfl)), (wsl_57 _ (List.mem_of_getElem? (i := 0) rfl)), (wsl_1 _ (List.mem_of_getElem? (i := 5) rfl)), (wsl_57 _ (List.mem_of_getElem? (i := 1) rfl)), by decide +kernel⟩
noncomputable def fX12_referredTo_b59 (h : hH) (a0 a1 l3 l4 s0 s1 : Int) : Option ((Int × Int) ⊕ ((Int × Int) ⊕ (Int))) :=
  some (.inl (w32 (s1 + s0), w32 (l4 + 1)))
noncomputable def fX12_referredTo_b58 (h : hH) (a0 a1 l3 l4 s0 : Int) : Option ((Int × Int) ⊕ ((Int × Int) ⊕ (Int))) :=
  fX12_referredTo_b59 h a0 a1 l3 l4 0 s0
noncomputable def fX12_referredTo_s17 (h : hH) (a0 a1 l3 : Int) : Int × Int → Option ((Int × Int) ⊕ ((Int × Int) ⊕ (Int))) := fun (l2, l4) =>
  if l4 < 99 then
    (aget h (h a0 6) (w32 (58 + l3))).bind fun v36 =>
    (fX12_isRowOf h a0 l4 v36).bind fun r37 =>
    if r37 = 0 then
      fX12_referredTo_b58 h a0 a1 l3 l4 l2
    else
      (fX12_target h a0 l4 l3).bind fun r47 =>
      if r47 = a1 then
        fX12_referredTo_b59 h a0 a1 l3 l4 1 l2
      else
        fX12_referredTo_b58 h a0 a1 l3 l4 l2
  else
    some (.inr (.inl (l2, w32 (l3 + 1))))
noncomputable def fX12_referredTo_s4 (h : hH) (a0 a1 : Int) : Int × Int → Option ((Int × Int) ⊕ (Int)) := fun (l2, l3) =>
  (aget h (h a0 6) 2).bind fun v10 =>
  if l3 < v10 then
    lpO (fX12_referredTo_s17 h a0 a1 l3) (l2, 0)
  else
    some (.inr (l2))
noncomputable def fX12_referredTo (h : hH) (a0 a1 : Int) : Option (Int) :=
  lpO (fX12_referredTo_s4 h a0 a1) (0, 0)
section M_X12_referredTo
variable {p : Program} {l : Launch} {e : Env} {R : Room} {s : State} {m : MethodId} {args : Array Value} {below : List Frame} {meth : Method} {c : Code} {D : va_G} {G : gG} {A : Nat → Prop} {H0 : Heap} {n0 : Int} {x : Option vV × hH} {h : hH}
set_option maxRecDepth 100000 in
set_option maxHeartbeats 4000000 in
theorem oX12_referredTo_b59 {a0 a1 l3 l4 s0 s1 : Int} {K : (Int × Int) ⊕ ((Int × Int) ⊕ (Int)) → Prop} (k0 : ∀ r, K (.inr (.inr (r))) → x = (some (0, r), h)) (k1 : ∀ (l2 : Int) (l3 : Int), K (.inr (.inl (l2, l3))) → Wq p l e R s m args below meth c D G A H0 true n0 M_X12_referredTo x 0 0 4 [(0, (22, a0)), (1, (0, a1)), (2, (0, l2)), (3, (0, l3))] [] h) (k2 : ∀ (l2 : Int) (l4 : Int), K (.inl (l2, l4)) → Wq p l e R s m args below meth c D G A H0 true n0 M_X12_referredTo x 0 0 17 [(0, (22, a0)), (1, (0, a1)), (2, (0, l2)), (3, (0, l3)), (4, (0, l4))] [] h) {r : (Int × Int) ⊕ ((Int × Int) ⊕ (Int))} (hr : fX12_referredTo_b59 h a0 a1 l3 l4 s0 s1 = some r) (hk : K r) : Wq p l e R s m args below meth c D G A H0 true n0 M_X12_referredTo x 0 0 59 [(0, (22, a0)), (1, (0, a1)), (3, (0, l3)), (4, (0, l4))] [(2, s0), (0, s1)] h := by
  unfold fX12_referredTo_b59 at hr
  refine r_scast 0 (v := (2, s0)) (w := (0, s0)) rfl zc hTz (st' := [(0, s0), (0, s1)]) rfl ?_
  refine r_iadd dX12_referredTo_59 ?_
  refine r_istore_n dX12_referredTo_60 rfl (Or.inl rfl) (by decide) (lv' := [(2, (0, w32 (s1 + s0))), (0, (22, a0)), (1, (0, a1)), (3, (0, l3)), (4, (0, l4))]) rfl ?_
  refine r_iinc (k := 4) (v := l4) dX12_referredTo_61 rfl (by decide) (lv' := [(4, (0, w32 (l4 + 1))), (2, (0, w32 (s1 + s0))), (0, (22, a0)), (1, (0, a1)), (3, (0, l3))]) rfl ?_
  refine r_goto dX12_referredTo_64 (tgt := 17) (by decide) ?_
  refine r_sub [2, 3, 1, 4, 0] (lv' := [(0, (22, a0)), (1, (0, a1)), (2, (0, w32 (s1 + s0))), (3, (0, l3)), (4, (0, w32 (l4 + 1)))]) rfl ?_
  obtain rfl := Option.some.inj hr
  exact k2 _ _ hk
set_option maxRecDepth 100000 in
set_option maxHeartbeats 4000000 in
theorem oX12_referredTo_b58 {a0 a1 l3 l4 s0 : Int} {K : (Int × Int) ⊕ ((Int × Int) ⊕ (Int)) → Prop} (k0 : ∀ r, K (.inr (.inr (r))) → x = (some (0, r), h)) (k1 : ∀ (l2 : Int) (l3 : Int), K (.inr (.inl (l2, l3))) → Wq p l e R s m args below meth c D G A H0 true n0 M_X12_referredTo x 0 0 4 [(0, (22, a0)), (1, (0, a1)), (2, (0, l2)), (3, (0, l3))] [] h) (k2 : ∀ (l2 : Int) (l4 : Int), K (.inl (l2, l4)) → Wq p l e R s m args below meth c D G A H0 true n0 M_X12_referredTo x 0 0 17 [(0, (22, a0)), (1, (0, a1)), (2, (0, l2)), (3, (0, l3)), (4, (0, l4))] [] h) {r : (Int × Int) ⊕ ((Int × Int) ⊕ (Int))} (hr : fX12_referredTo_b58 h a0 a1 l3 l4 s0 = some r) (hk : K r) : Wq p l e R s m args below meth c D G A H0 true n0 M_X12_referredTo x 0 0 58 [(0, (22, a0)), (1, (0, a1)), (3, (0, l3)), (4, (0, l4))] [(0, s0)] h := by
  unfold fX12_referredTo_b58 at hr
  refine r_iconst dX12_referredTo_58 (by decide) ?_
  refine r_scast 0 (v := (0, 0)) (w := (2, 0)) rfl cz (fun _ => Or.inl rfl) (st' := [(2, 0), (0, s0)]) rfl ?_
  exact oX12_referredTo_b59 (K := K) (fun r z => k0 r z) (fun _ _ z => k1 _ _ z) (fun _ _ z => k2 _ _ z) hr hk
set_option maxRecDepth 100000 in
set_option maxHeartbeats 4000000 in
theorem oX12_referredTo_s17 {a0 a1 l3 l2 l4 : Int} {K : (Int × Int) ⊕ ((Int × Int) ⊕ (Int)) → Prop} (k0 : ∀ r, K (.inr (.inr (r))) → x = (some (0, r), h)) (k1 : ∀ (l2 : Int) (l3 : Int), K (.inr (.inl (l2, l3))) → Wq p l e R s m args below meth c D G A H0 true n0 M_X12_referredTo x 0 0 4 [(0, (22, a0)), (1, (0, a1)), (2, (0, l2)), (3, (0, l3))] [] h) (k2 : ∀ (l2 : Int) (l4 : Int), K (.inl (l2, l4)) → Wq p l e R s m args below meth c D G A H0 true n0 M_X12_referredTo x 0 0 17 [(0, (22, a0)), (1, (0, a1)), (2, (0, l2)), (3, (0, l3)), (4, (0, l4))] [] h) {r : (Int × Int) ⊕ ((Int × Int) ⊕ (Int))} (hr : fX12_referredTo_s17 h a0 a1 l3 (l2, l4) = some r) (hk : K r) : Wq p l e R s m args below meth c D G A H0 true n0 M_X12_referredTo x 0 0 17 [(0, (22, a0)), (1, (0, a1)), (2, (0, l2)), (3, (0, l3)), (4, (0, l4))] [] h := by
  unfold fX12_referredTo_s17 at hr
  refine r_iload dX12_referredTo_17 4 rfl (Or.inl rfl) ?_
  refine r_bipush dX12_referredTo_19 (by decide) (by decide) ?_
  refine r_icmp_ge dX12_referredTo_21 (tgt := 67) (by decide) (fun hc => ?_) (fun hc => ?_)
  · have hr := ifn hr hc
    refine r_iinc (k := 3) (v := l3) dX12_referredTo_67 rfl (by decide) (lv' := [(3, (0, w32 (l3 + 1))), (0, (22, a0)), (1, (0, a1)), (2, (0, l2)), (4, (0, l4))]) rfl ?_
    refine r_goto dX12_referredTo_70 (tgt := 4) (by decide) ?_
    refine r_sub [1, 2, 3, 0] (lv' := [(0, (22, a0)), (1, (0, a1)), (2, (0, l2)), (3, (0, w32 (l3 + 1)))]) rfl ?_
    obtain rfl := Option.some.inj hr
    exact k1 _ _ hk
  · have hr := ifp hr hc
    refine r_iload_n dX12_referredTo_24 rfl 2 rfl (Or.inl rfl) ?_
    refine r_aload_n dX12_referredTo_25 rfl 0 rfl (nl rfl) ?_
    refine r_iload dX12_referredTo_26 4 rfl (Or.inl rfl) ?_
    refine r_aload_n dX12_referredTo_28 rfl 0 rfl (nl rfl) ?_
    refine r_get 12 6 (o := a0) (w := (50, h a0 6)) (T := TX12) (ref := "FollowingRefsModel") rfl (by decide) rfl (by decide) inlX12 (wsl_7 _ (List.mem_of_getElem? (i := 8) rfl)) rfl dX12_referredTo_29 rfl ?_
    refine r_bipush dX12_referredTo_32 (by decide) (by decide) ?_
    refine r_iload_n dX12_referredTo_34 rfl 3 rfl (Or.inl rfl) ?_
    refine r_iadd dX12_referredTo_35 ?_
    obtain ⟨v36, hg36, hr⟩ := bnd hr
    refine r_iald dX12_referredTo_36 hg36 ?_
    obtain ⟨r37, hg37, hr⟩ := bnd hr
    refine k_V (ci := 12) (o := a0) (T := TX12) (as := [(0, l4), (0, v36)]) (rest := [(0, l2)]) (X := (some (2, r37), h)) (oX12_isRowOf hg37) gX12_isRowOf rfl (by decide) rfl (wsl_43 _ (List.mem_of_getElem? (i := 9) rfl)) rfl dX12_referredTo_37 rfl ?_
    refine r_scast 0 (v := (2, r37)) (w := (0, r37)) rfl zc hTz (st' := [(0, r37), (0, l2)]) rfl ?_
    refine r_if_eq dX12_referredTo_40 (tgt := 58) (by decide) (fun hc => ?_) (fun hc => ?_)
    · have hr := ifp hr hc
      refine r_sub [0, 1, 3, 4] (lv' := [(0, (22, a0)), (1, (0, a1)), (3, (0, l3)), (4, (0, l4))]) rfl ?_
      exact oX12_referredTo_b58 (K := K) (fun r z => k0 r z) (fun _ _ z => k1 _ _ z) (fun _ _ z => k2 _ _ z) hr hk
    · have hr := ifn hr hc
      refine r_aload_n dX12_referredTo_43 rfl 0 rfl (nl rfl) ?_
      refine r_iload dX12_referredTo_44 4 rfl (Or.inl rfl) ?_
      refine r_iload_n dX12_referredTo_46 rfl 3 rfl (Or.inl rfl) ?_
      obtain ⟨r47, hg47, hr⟩ := bnd hr
      refine k_V (ci := 12) (o := a0) (T := TX12) (as := [(0, l4), (0, l3)]) (rest := [(0, l2)]) (X := (some (0, r47), h)) (oX12_target hg47) gX12_target rfl (by decide) rfl (wsl_42 _ (List.mem_of_getElem? (i := 13) rfl)) rfl dX12_referredTo_47 rfl ?_
      refine r_iload_n dX12_referredTo_50 rfl 1 rfl (Or.inl rfl) ?_
      refine r_icmp_ne dX12_referredTo_51 (tgt := 58) (by decide) (fun hc => ?_) (fun hc => ?_)
      · have hr := ifn hr hc
        refine r_sub [0, 1, 3, 4] (lv' := [(0, (22, a0)), (1, (0, a1)), (3, (0, l3)), (4, (0, l4))]) rfl ?_
        exact oX12_referredTo_b58 (K := K) (fun r z => k0 r z) (fun _ _ z => k1 _ _ z) (fun _ _ z => k2 _ _ z) hr hk
      · have hr := ifp hr hc
        refine r_iconst dX12_referredTo_54 (by decide) ?_
        refine r_goto dX12_referredTo_55 (tgt := 59) (by decide) ?_
        refine r_sub [0, 1, 3, 4] (lv' := [(0, (22, a0)), (1, (0, a1)), (3, (0, l3)), (4, (0, l4))]) rfl ?_
        refine r_scast 0 (v := (0, 1)) (w := (2, 1)) rfl cz (fun _ => Or.inr rfl) (st' := [(2, 1), (0, l2)]) rfl ?_
        exact oX12_referredTo_b59 (K := K) (fun r z => k0 r z) (fun _ _ z => k1 _ _ z) (fun _ _ z => k2 _ _ z) hr hk
set_option maxRecDepth 100000 in
set_option maxHeartbeats 4000000 in
theorem oX12_referredTo_s4 {a0 a1 l2 l3 : Int} {K : (Int × Int) ⊕ (Int) → Prop} (k0 : ∀ r, K (.inr (r)) → x = (some (0, r), h)) (k1 : ∀ (l2 : Int) (l3 : Int), K (.inl (l2, l3)) → Wq p l e R s m args below meth c D G A H0 true n0 M_X12_referredTo x 0 0 4 [(0, (22, a0)), (1, (0, a1)), (2, (0, l2)), (3, (0, l3))] [] h) {r : (Int × Int) ⊕ (Int)} (hr : fX12_referredTo_s4 h a0 a1 (l2, l3) = some r) (hk : K r) : Wq p l e R s m args below meth c D G A H0 true n0 M_X12_referredTo x 0 0 4 [(0, (22, a0)), (1, (0, a1)), (2, (0, l2)), (3, (0, l3))] [] h := by
  unfold fX12_referredTo_s4 at hr
  refine r_iload_n dX12_referredTo_4 rfl 3 rfl (Or.inl rfl) ?_
  refine r_aload_n dX12_referredTo_5 rfl 0 rfl (nl rfl) ?_
  refine r_get 12 6 (o := a0) (w := (50, h a0 6)) (T := TX12) (ref := "FollowingRefsModel") rfl (by decide) rfl (by decide) inlX12 (wsl_7 _ (List.mem_of_getElem? (i := 8) rfl)) rfl dX12_referredTo_6 rfl ?_
  refine r_iconst dX12_referredTo_9 (by decide) ?_
  obtain ⟨v10, hg10, hr⟩ := bnd hr
  refine r_iald dX12_referredTo_10 hg10 ?_
  refine r_icmp_ge dX12_referredTo_11 (tgt := 73) (by decide) (fun hc => ?_) (fun hc => ?_)
  · have hr := ifn hr hc
    refine r_iload_n dX12_referredTo_73 rfl 2 rfl (Or.inl rfl) ?_
    obtain rfl := Option.some.inj hr
    exact r_ret dX12_referredTo_74 rfl (Or.inl ⟨rfl, rfl⟩) (k0 _ hk) ⟨rfl, rfl⟩
  · have hr := ifp hr hc
    refine r_iconst dX12_referredTo_14 (by decide) ?_
    refine r_istore dX12_referredTo_15 (Or.inl rfl) (by decide) (lv' := [(4, (0, 0)), (0, (22, a0)), (1, (0, a1)), (2, (0, l2)), (3, (0, l3))]) rfl ?_
    refine r_sub [1, 2, 3, 4, 0] (lv' := [(0, (22, a0)), (1, (0, a1)), (2, (0, l2)), (3, (0, l3)), (4, (0, 0))]) rfl ?_
    exact lp_ok (w := fun (q : Int × Int) => Wq p l e R s m args below meth c D G A H0 true n0 M_X12_referredTo x 0 0 17 [(0, (22, a0)), (1, (0, a1)), (2, (0, q.1)), (3, (0, l3)), (4, (0, q.2))] [] (h)) (K := K) (fun ⟨q0, q1⟩ r h1 h2 => oX12_referredTo_s17 (K := Sum.elim (fun (q : Int × Int) => Wq p l e R s m args below meth c D G A H0 true n0 M_X12_referredTo x 0 0 17 [(0, (22, a0)), (1, (0, a1)), (2, (0, q.1)), (3, (0, l3)), (4, (0, q.2))] [] (h)) (K)) (fun r z => k0 r z) (fun _ _ z => k1 _ _ z) (fun _ _ z => z) h1 h2) hr hk
set_option maxRecDepth 100000 in
set_option maxHeartbeats 4000000 in
theorem oX12_referredTo_b0 {a0 a1 : Int} {K : Int → Prop} (k0 : ∀ r, K (r) → x = (some (0, r), h)) {r : Int} (hr : fX12_referredTo h a0 a1 = some r) (hk : K r) : Wq p l e R s m args below meth c D G A H0 true n0 M_X12_referredTo x 0 0 0 [(0, (22, a0)), (1, (0, a1))] [] h := by
  unfold fX12_referredTo at hr
  refine r_iconst dX12_referredTo_0 (by decide) ?_
  refine r_istore_n dX12_referredTo_1 rfl (Or.inl rfl) (by decide) (lv' := [(2, (0, 0)), (0, (22, a0)), (1, (0, a1))]) rfl ?_
  refine r_iconst dX12_referredTo_2 (by decide) ?_
  refine r_istore_n dX12_referredTo_3 rfl (Or.inl rfl) (by decide) (lv' := [(3, (0, 0)), (2, (0, 0)), (0, (22, a0)), (1, (0, a1))]) rfl ?_
  refine r_sub [2, 3, 1, 0] (lv' := [(0, (22, a0)), (1, (0, a1)), (2, (0, 0)), (3, (0, 0))]) rfl ?_
  exact lp_ok (w := fun (q : Int × Int) => Wq p l e R s m args below meth c D G A H0 true n0 M_X12_referredTo x 0 0 4 [(0, (22, a0)), (1, (0, a1)), (2, (0, q.1)), (3, (0, q.2))] [] (h)) (K := K) (fun ⟨q0, q1⟩ r h1 h2 => oX12_referredTo_s4 (K := Sum.elim (fun (q : Int × Int) => Wq p l e R s m args below meth c D G A H0 true n0 M_X12_referredTo x 0 0 4 [(0, (22, a0)), (1, (0, a1)), (2, (0, q.1)), (3, (0, q.2))] [] (h)) (K)) (fun r z => k0 r z) (fun _ _ z => z) h1 h2) hr hk
end M_X12_referredTo
theorem oX12_referredTo {l : Launch} {D : va_G} {G : gG} {h : hH} {a0 a1 : Int} {r : Int} (hr : fX12_referredTo h a0 a1 = some r) : Ctr l D G true yX12_referredTo M_X12_referredTo [(22, a0), (0, a1)] h (some (0, r), h) :=
  Ctr_of (by decide) rfl (fun z => by cases z) (nl rfl) (fun {p e R s m args below meth c A H0} => by
    exact oX12_referredTo_b0 (K := fun z9 => z9 = r) (fun r9 z => by rw [z]) hr rfl)
/-! X12_referred -/
theorem dX12_referred_0 : decode cX12_referred 0 = .ok (.aload_n 0, 1) := by decide +kernel
theorem dX12_referred_1 : decode cX12_referred 1 = .ok (.iconst 0, 1) := by decide +kernel
theorem dX12_referred_2 : decode cX12_referred 2 = .ok (.putfield 1, 3) := by decide +kernel
theorem dX12_referred_5 : decode cX12_referred 5 = .ok (.aload_n 0, 1) := by decide +kernel
theorem dX12_referred_6 : decode cX12_referred 6 = .ok (.iload_n 1, 1) := by decide +kernel
theorem dX12_referred_7 : decode cX12_referred 7 = .ok (.invokevirtual 489, 3) := by decide +kernel
theorem dX12_referred_10 : decode cX12_referred 10 = .ok (.ifCond .eq 11, 3) := by decide +kernel
theorem dX12_referred_13 : decode cX12_referred 13 = .ok (.aload_n 0, 1) := by decide +kernel
theorem dX12_referred_14 : decode cX12_referred 14 = .ok (.iload_n 1, 1) := by decide +kernel
theorem dX12_referred_15 : decode cX12_referred 15 = .ok (.invokevirtual 499, 3) := by decide +kernel
theorem dX12_referred_18 : decode cX12_referred 18 = .ok (.goto 4, 3) := by decide +kernel
theorem dX12_referred_21 : decode cX12_referred 21 = .ok (.iconst (-1), 1) := by decide +kernel
theorem dX12_referred_22 : decode cX12_referred 22 = .ok (.ireturn, 1) := by decide +kernel
abbrev M_X12_referred : mM := (cX12_referred, 2, RX12, some .int, false, 4, 95, 0, 0)
theorem gX12_referred : cI yX12_referred M_X12_referred 1 := ⟨(wsl_56 _ (List.mem_of_getElem? (i := 19) rfl)), (wsl_56 _ (List.mem_of_getElem? (i := 20) rfl)), (wsl_1 _ (List.mem_of_getElem? (i := 5) rfl)), (wsl_56 _ (List.mem_of_getElem? (i := 21) rfl)), by decide +kernel⟩
noncomputable def fX12_referred (h : hH) (a0 a1 : Int) : Option (Int × hH) :=
  (pput h a0 0 0).bind fun h2 =>
  (fX12_isRow h2 a0 a1).bind fun r7 =>
  if r7 = 0 then
    some (-1, h2)
  else
    (fX12_referredTo h2 a0 a1).bind fun r15 =>
    some (r15, h2)
section M_X12_referred
variable {p : Program} {l : Launch} {e : Env} {R : Room} {s : State} {m : MethodId} {args : Array Value} {below : List Frame} {meth : Method} {c : Code} {D : va_G} {G : gG} {A : Nat → Prop} {H0 : Heap} {n0 : Int} {x : Option vV × hH} {h : hH}
set_option maxRecDepth 100000 in
set_option maxHeartbeats 4000000 in
theorem oX12_referred_b0 {a0 a1 : Int} {K : Int × hH → Prop} (k0 : ∀ r, K (r) → x = (some (0, r.1), r.2)) {r : Int × hH} (hr : fX12_referred h a0 a1 = some r) (hk : K r) : Wq p l e R s m args below meth c D G A H0 true n0 M_X12_referred x 0 0 0 [(0, (22, a0)), (1, (0, a1))] [] h := by
  unfold fX12_referred at hr
  refine r_aload_n dX12_referred_0 rfl 0 rfl (nl rfl) ?_
  refine r_iconst dX12_referred_1 (by decide) ?_
  obtain ⟨h2, hg2, hr⟩ := bnd hr
  refine r_put' 12 0 (t := 0) (ref := "FollowingRefsModel") hg2 rfl tyX12 tyX12_ok nmX12 rfl (by decide) rfl (by decide) inlX12 (wsl_10 _ (List.mem_of_getElem? (i := 11) rfl)) rfl rfl (by decide +kernel) (by decide) rfl (Or.inl ⟨rfl, rfl⟩) dX12_referred_2 ?_
  refine r_aload_n dX12_referred_5 rfl 0 rfl (nl rfl) ?_
  refine r_iload_n dX12_referred_6 rfl 1 rfl (Or.inl rfl) ?_
  obtain ⟨r7, hg7, hr⟩ := bnd hr
  refine k_V (ci := 12) (o := a0) (T := TX12) (as := [(0, a1)]) (rest := []) (X := (some (2, r7), h2)) (oX12_isRow hg7) gX12_isRow rfl (by decide) rfl (wsl_54 _ (List.mem_of_getElem? (i := 12) rfl)) rfl dX12_referred_7 rfl ?_
  refine r_scast 0 (v := (2, r7)) (w := (0, r7)) rfl zc hTz (st' := [(0, r7)]) rfl ?_
  refine r_if_eq dX12_referred_10 (tgt := 21) (by decide) (fun hc => ?_) (fun hc => ?_)
  · have hr := ifp hr hc
    refine r_iconst dX12_referred_21 (by decide) ?_
    obtain rfl := Option.some.inj hr
    exact r_ret dX12_referred_22 rfl (Or.inl ⟨rfl, rfl⟩) (k0 _ hk) ⟨rfl, rfl⟩
  · have hr := ifn hr hc
    refine r_aload_n dX12_referred_13 rfl 0 rfl (nl rfl) ?_
    refine r_iload_n dX12_referred_14 rfl 1 rfl (Or.inl rfl) ?_
    obtain ⟨r15, hg15, hr⟩ := bnd hr
    refine k_V (ci := 12) (o := a0) (T := TX12) (as := [(0, a1)]) (rest := []) (X := (some (0, r15), h2)) (oX12_referredTo hg15) gX12_referredTo rfl (by decide) rfl (wsl_56 _ (List.mem_of_getElem? (i := 22) rfl)) rfl dX12_referred_15 rfl ?_
    refine r_goto dX12_referred_18 (tgt := 22) (by decide) ?_
    obtain rfl := Option.some.inj hr
    exact r_ret dX12_referred_22 rfl (Or.inl ⟨rfl, rfl⟩) (k0 _ hk) ⟨rfl, rfl⟩
end M_X12_referred
theorem oX12_referred {l : Launch} {D : va_G} {G : gG} {h : hH} {a0 a1 : Int} {r : Int × hH} (hr : fX12_referred h a0 a1 = some r) : Ctr l D G true yX12_referred M_X12_referred [(22, a0), (0, a1)] h (some (0, r.1), r.2) :=
  Ctr_of (by decide) rfl (fun z => by cases z) (nl rfl) (fun {p e R s m args below meth c A H0} => by
    exact oX12_referred_b0 (K := fun z9 => z9 = r) (fun r9 z => by rw [z]) hr rfl)
/-! X12_perils -/
theorem dX12_perils_0 : decode cX12_perils 0 = .ok (.iconst 0, 1) := by decide +kernel
theorem dX12_perils_1 : decode cX12_perils 1 = .ok (.istore_n 2, 1) := by decide +kernel
theorem dX12_perils_2 : decode cX12_perils 2 = .ok (.iconst 0, 1) := by decide +kernel
theorem dX12_perils_3 : decode cX12_perils 3 = .ok (.istore_n 3, 1) := by decide +kernel
theorem dX12_perils_4 : decode cX12_perils 4 = .ok (.iload_n 3, 1) := by decide +kernel
theorem dX12_perils_5 : decode cX12_perils 5 = .ok (.iconst 4, 1) := by decide +kernel
theorem dX12_perils_6 : decode cX12_perils 6 = .ok (.if_icmp .ge 89, 3) := by decide +kernel
theorem dX12_perils_9 : decode cX12_perils 9 = .ok (.iconst 0, 1) := by decide +kernel
theorem dX12_perils_10 : decode cX12_perils 10 = .ok (.istore 4, 2) := by decide +kernel
theorem dX12_perils_12 : decode cX12_perils 12 = .ok (.iload 4, 2) := by decide +kernel
theorem dX12_perils_14 : decode cX12_perils 14 = .ok (.aload_n 0, 1) := by decide +kernel
theorem dX12_perils_15 : decode cX12_perils 15 = .ok (.getfield 33, 3) := by decide +kernel
theorem dX12_perils_18 : decode cX12_perils 18 = .ok (.iconst 2, 1) := by decide +kernel
theorem dX12_perils_19 : decode cX12_perils 19 = .ok (.iaload, 1) := by decide +kernel
theorem dX12_perils_20 : decode cX12_perils 20 = .ok (.if_icmp .ge 69, 3) := by decide +kernel
theorem dX12_perils_23 : decode cX12_perils 23 = .ok (.aload_n 0, 1) := by decide +kernel
theorem dX12_perils_24 : decode cX12_perils 24 = .ok (.getfield 33, 3) := by decide +kernel
theorem dX12_perils_27 : decode cX12_perils 27 = .ok (.bipush 88, 2) := by decide +kernel
theorem dX12_perils_29 : decode cX12_perils 29 = .ok (.iload 4, 2) := by decide +kernel
theorem dX12_perils_31 : decode cX12_perils 31 = .ok (.iadd, 1) := by decide +kernel
theorem dX12_perils_32 : decode cX12_perils 32 = .ok (.iaload, 1) := by decide +kernel
theorem dX12_perils_33 : decode cX12_perils 33 = .ok (.iconst 1, 1) := by decide +kernel
theorem dX12_perils_34 : decode cX12_perils 34 = .ok (.if_icmp .ne 49, 3) := by decide +kernel
theorem dX12_perils_37 : decode cX12_perils 37 = .ok (.aload_n 0, 1) := by decide +kernel
theorem dX12_perils_38 : decode cX12_perils 38 = .ok (.getfield 33, 3) := by decide +kernel
theorem dX12_perils_41 : decode cX12_perils 41 = .ok (.bipush 76, 2) := by decide +kernel
theorem dX12_perils_43 : decode cX12_perils 43 = .ok (.iload 4, 2) := by decide +kernel
theorem dX12_perils_45 : decode cX12_perils 45 = .ok (.iadd, 1) := by decide +kernel
theorem dX12_perils_46 : decode cX12_perils 46 = .ok (.iaload, 1) := by decide +kernel
theorem dX12_perils_47 : decode cX12_perils 47 = .ok (.iload_n 1, 1) := by decide +kernel
theorem dX12_perils_48 : decode cX12_perils 48 = .ok (.if_icmp .eq 20, 3) := by decide +kernel
theorem dX12_perils_51 : decode cX12_perils 51 = .ok (.iload_n 2, 1) := by decide +kernel
theorem dX12_perils_52 : decode cX12_perils 52 = .ok (.aload_n 0, 1) := by decide +kernel
theorem dX12_perils_53 : decode cX12_perils 53 = .ok (.getfield 33, 3) := by decide +kernel
theorem dX12_perils_56 : decode cX12_perils 56 = .ok (.bipush 76, 2) := by decide +kernel
theorem dX12_perils_58 : decode cX12_perils 58 = .ok (.iload 4, 2) := by decide +kernel
theorem dX12_perils_60 : decode cX12_perils 60 = .ok (.iadd, 1) := by decide +kernel
theorem dX12_perils_61 : decode cX12_perils 61 = .ok (.iaload, 1) := by decide +kernel
theorem dX12_perils_62 : decode cX12_perils 62 = .ok (.invokestatic 502, 3) := by decide +kernel
theorem dX12_perils_65 : decode cX12_perils 65 = .ok (.ifCond .eq 18, 3) := by decide +kernel
theorem dX12_perils_68 : decode cX12_perils 68 = .ok (.iload_n 2, 1) := by decide +kernel
theorem dX12_perils_69 : decode cX12_perils 69 = .ok (.iconst 1, 1) := by decide +kernel
theorem dX12_perils_70 : decode cX12_perils 70 = .ok (.aload_n 0, 1) := by decide +kernel
theorem dX12_perils_71 : decode cX12_perils 71 = .ok (.getfield 33, 3) := by decide +kernel
theorem dX12_perils_74 : decode cX12_perils 74 = .ok (.bipush 58, 2) := by decide +kernel
theorem dX12_perils_76 : decode cX12_perils 76 = .ok (.iload 4, 2) := by decide +kernel
theorem dX12_perils_78 : decode cX12_perils 78 = .ok (.iadd, 1) := by decide +kernel
theorem dX12_perils_79 : decode cX12_perils 79 = .ok (.iaload, 1) := by decide +kernel
theorem dX12_perils_80 : decode cX12_perils 80 = .ok (.ishl, 1) := by decide +kernel
theorem dX12_perils_81 : decode cX12_perils 81 = .ok (.ior, 1) := by decide +kernel
theorem dX12_perils_82 : decode cX12_perils 82 = .ok (.istore_n 2, 1) := by decide +kernel
theorem dX12_perils_83 : decode cX12_perils 83 = .ok (.iinc 4 1, 3) := by decide +kernel
theorem dX12_perils_86 : decode cX12_perils 86 = .ok (.goto (-74), 3) := by decide +kernel
theorem dX12_perils_89 : decode cX12_perils 89 = .ok (.iinc 3 1, 3) := by decide +kernel
theorem dX12_perils_92 : decode cX12_perils 92 = .ok (.goto (-88), 3) := by decide +kernel
theorem dX12_perils_95 : decode cX12_perils 95 = .ok (.iload_n 2, 1) := by decide +kernel
theorem dX12_perils_96 : decode cX12_perils 96 = .ok (.ireturn, 1) := by decide +kernel
abbrev M_X12_perils : mM := (cX12_perils, 5, RX12, some .int, false, 1, 21, 0, 0)
theorem gX12_perils : cI yX12_perils M_X12_perils 1 := ⟨(wsl_58 _ (List.mem_of_getElem? (i := 0) rfl)), (wsl_58 _ (List.mem_of_getElem? (i := 1) rfl)), (wsl_1 _ (List.mem_of_getElem? (i := 5) rfl)), (wsl_58 _ (List.mem_of_getElem? (i := 2) rfl)), by decide +kernel⟩
noncomputable def fX12_perils_b68 (h : hH) (a0 a1 l2 l3 l4 : Int) : Option ((Int × Int) ⊕ ((Int × Int) ⊕ (Int))) :=
  (aget h (h a0 6) (w32 (58 + l4))).bind fun v79 =>
  some (.inl (iorD l2 (ishD 1 v79), w32 (l4 + 1)))
noncomputable def fX12_perils_s12 (h : hH) (a0 a1 l3 : Int) : Int × Int → Option ((Int × Int) ⊕ ((Int × Int) ⊕ (Int))) := fun (l2, l4) =>
  (aget h (h a0 6) 2).bind fun v19 =>
  if l4 < v19 then
    (aget h (h a0 6) (w32 (88 + l4))).bind fun v32 =>
    if v32 = 1 then
      (aget h (h a0 6) (w32 (76 + l4))).bind fun v46 =>
      if v46 = a1 then
        fX12_perils_b68 h a0 a1 l2 l3 l4
      else
        (aget h (h a0 6) (w32 (76 + l4))).bind fun v61 =>
        (fX12_bitOf h l2 v61).bind fun r62 =>
        if r62 = 0 then
          some (.inl (l2, w32 (l4 + 1)))
        else
          fX12_perils_b68 h a0 a1 l2 l3 l4
    else
      some (.inl (l2, w32 (l4 + 1)))
  else
    some (.inr (.inl (l2, w32 (l3 + 1))))
noncomputable def fX12_perils_s4 (h : hH) (a0 a1 : Int) : Int × Int → Option ((Int × Int) ⊕ (Int)) := fun (l2, l3) =>
  if l3 < 4 then
    lpO (fX12_perils_s12 h a0 a1 l3) (l2, 0)
  else
    some (.inr (l2))
noncomputable def fX12_perils (h : hH) (a0 a1 : Int) : Option (Int) :=
  lpO (fX12_perils_s4 h a0 a1) (0, 0)
section M_X12_perils
variable {p : Program} {l : Launch} {e : Env} {R : Room} {s : State} {m : MethodId} {args : Array Value} {below : List Frame} {meth : Method} {c : Code} {D : va_G} {G : gG} {A : Nat → Prop} {H0 : Heap} {n0 : Int} {x : Option vV × hH} {h : hH}
set_option maxRecDepth 100000 in
set_option maxHeartbeats 4000000 in
theorem oX12_perils_b68 {a0 a1 l2 l3 l4 : Int} {K : (Int × Int) ⊕ ((Int × Int) ⊕ (Int)) → Prop} (k0 : ∀ r, K (.inr (.inr (r))) → x = (some (0, r), h)) (k1 : ∀ (l2 : Int) (l3 : Int), K (.inr (.inl (l2, l3))) → Wq p l e R s m args below meth c D G A H0 true n0 M_X12_perils x 0 0 4 [(0, (22, a0)), (1, (0, a1)), (2, (0, l2)), (3, (0, l3))] [] h) (k2 : ∀ (l2 : Int) (l4 : Int), K (.inl (l2, l4)) → Wq p l e R s m args below meth c D G A H0 true n0 M_X12_perils x 0 0 12 [(0, (22, a0)), (1, (0, a1)), (2, (0, l2)), (3, (0, l3)), (4, (0, l4))] [] h) {r : (Int × Int) ⊕ ((Int × Int) ⊕ (Int))} (hr : fX12_perils_b68 h a0 a1 l2 l3 l4 = some r) (hk : K r) : Wq p l e R s m args below meth c D G A H0 true n0 M_X12_perils x 0 0 68 [(0, (22, a0)), (1, (0, a1)), (2, (0, l2)), (3, (0, l3)), (4, (0, l4))] [] h := by
  unfold fX12_perils_b68 at hr
  refine r_iload_n dX12_perils_68 rfl 2 rfl (Or.inl rfl) ?_
  refine r_iconst dX12_perils_69 (by decide) ?_
  refine r_aload_n dX12_perils_70 rfl 0 rfl (nl rfl) ?_
  refine r_get 12 6 (o := a0) (w := (50, h a0 6)) (T := TX12) (ref := "FollowingRefsModel") rfl (by decide) rfl (by decide) inlX12 (wsl_7 _ (List.mem_of_getElem? (i := 8) rfl)) rfl dX12_perils_71 rfl ?_
  refine r_bipush dX12_perils_74 (by decide) (by decide) ?_
  refine r_iload dX12_perils_76 4 rfl (Or.inl rfl) ?_
  refine r_iadd dX12_perils_78 ?_
  obtain ⟨v79, hg79, hr⟩ := bnd hr
  refine r_iald dX12_perils_79 hg79 ?_
  refine r_ishl dX12_perils_80 ?_
  refine r_ior dX12_perils_81 ?_
  refine r_istore_n dX12_perils_82 rfl (Or.inl rfl) (by decide) (lv' := [(2, (0, iorD l2 (ishD 1 v79))), (0, (22, a0)), (1, (0, a1)), (3, (0, l3)), (4, (0, l4))]) rfl ?_
  refine r_iinc (k := 4) (v := l4) dX12_perils_83 rfl (by decide) (lv' := [(4, (0, w32 (l4 + 1))), (2, (0, iorD l2 (ishD 1 v79))), (0, (22, a0)), (1, (0, a1)), (3, (0, l3))]) rfl ?_
  refine r_goto dX12_perils_86 (tgt := 12) (by decide) ?_
  refine r_sub [2, 3, 1, 4, 0] (lv' := [(0, (22, a0)), (1, (0, a1)), (2, (0, iorD l2 (ishD 1 v79))), (3, (0, l3)), (4, (0, w32 (l4 + 1)))]) rfl ?_
  obtain rfl := Option.some.inj hr
  exact k2 _ _ hk
set_option maxRecDepth 100000 in
set_option maxHeartbeats 4000000 in
theorem oX12_perils_s12 {a0 a1 l3 l2 l4 : Int} {K : (Int × Int) ⊕ ((Int × Int) ⊕ (Int)) → Prop} (k0 : ∀ r, K (.inr (.inr (r))) → x = (some (0, r), h)) (k1 : ∀ (l2 : Int) (l3 : Int), K (.inr (.inl (l2, l3))) → Wq p l e R s m args below meth c D G A H0 true n0 M_X12_perils x 0 0 4 [(0, (22, a0)), (1, (0, a1)), (2, (0, l2)), (3, (0, l3))] [] h) (k2 : ∀ (l2 : Int) (l4 : Int), K (.inl (l2, l4)) → Wq p l e R s m args below meth c D G A H0 true n0 M_X12_perils x 0 0 12 [(0, (22, a0)), (1, (0, a1)), (2, (0, l2)), (3, (0, l3)), (4, (0, l4))] [] h) {r : (Int × Int) ⊕ ((Int × Int) ⊕ (Int))} (hr : fX12_perils_s12 h a0 a1 l3 (l2, l4) = some r) (hk : K r) : Wq p l e R s m args below meth c D G A H0 true n0 M_X12_perils x 0 0 12 [(0, (22, a0)), (1, (0, a1)), (2, (0, l2)), (3, (0, l3)), (4, (0, l4))] [] h := by
  unfold fX12_perils_s12 at hr
  refine r_iload dX12_perils_12 4 rfl (Or.inl rfl) ?_
  refine r_aload_n dX12_perils_14 rfl 0 rfl (nl rfl) ?_
  refine r_get 12 6 (o := a0) (w := (50, h a0 6)) (T := TX12) (ref := "FollowingRefsModel") rfl (by decide) rfl (by decide) inlX12 (wsl_7 _ (List.mem_of_getElem? (i := 8) rfl)) rfl dX12_perils_15 rfl ?_
  refine r_iconst dX12_perils_18 (by decide) ?_
  obtain ⟨v19, hg19, hr⟩ := bnd hr
  refine r_iald dX12_perils_19 hg19 ?_
  refine r_icmp_ge dX12_perils_20 (tgt := 89) (by decide) (fun hc => ?_) (fun hc => ?_)
  · have hr := ifn hr hc
    refine r_iinc (k := 3) (v := l3) dX12_perils_89 rfl (by decide) (lv' := [(3, (0, w32 (l3 + 1))), (0, (22, a0)), (1, (0, a1)), (2, (0, l2)), (4, (0, l4))]) rfl ?_
    refine r_goto dX12_perils_92 (tgt := 4) (by decide) ?_
    refine r_sub [1, 2, 3, 0] (lv' := [(0, (22, a0)), (1, (0, a1)), (2, (0, l2)), (3, (0, w32 (l3 + 1)))]) rfl ?_
    obtain rfl := Option.some.inj hr
    exact k1 _ _ hk
  · have hr := ifp hr hc
    refine r_aload_n dX12_perils_23 rfl 0 rfl (nl rfl) ?_
    refine r_get 12 6 (o := a0) (w := (50, h a0 6)) (T := TX12) (ref := "FollowingRefsModel") rfl (by decide) rfl (by decide) inlX12 (wsl_7 _ (List.mem_of_getElem? (i := 8) rfl)) rfl dX12_perils_24 rfl ?_
    refine r_bipush dX12_perils_27 (by decide) (by decide) ?_
    refine r_iload dX12_perils_29 4 rfl (Or.inl rfl) ?_
    refine r_iadd dX12_perils_31 ?_
    obtain ⟨v32, hg32, hr⟩ := bnd hr
    refine r_iald dX12_perils_32 hg32 ?_
    refine r_iconst dX12_perils_33 (by decide) ?_
    refine r_icmp_ne dX12_perils_34 (tgt := 83) (by decide) (fun hc => ?_) (fun hc => ?_)
    · have hr := ifn hr hc
      refine r_iinc (k := 4) (v := l4) dX12_perils_83 rfl (by decide) (lv' := [(4, (0, w32 (l4 + 1))), (0, (22, a0)), (1, (0, a1)), (2, (0, l2)), (3, (0, l3))]) rfl ?_
      refine r_goto dX12_perils_86 (tgt := 12) (by decide) ?_
      refine r_sub [1, 2, 3, 4, 0] (lv' := [(0, (22, a0)), (1, (0, a1)), (2, (0, l2)), (3, (0, l3)), (4, (0, w32 (l4 + 1)))]) rfl ?_
      obtain rfl := Option.some.inj hr
      exact k2 _ _ hk
    · have hr := ifp hr hc
      refine r_aload_n dX12_perils_37 rfl 0 rfl (nl rfl) ?_
      refine r_get 12 6 (o := a0) (w := (50, h a0 6)) (T := TX12) (ref := "FollowingRefsModel") rfl (by decide) rfl (by decide) inlX12 (wsl_7 _ (List.mem_of_getElem? (i := 8) rfl)) rfl dX12_perils_38 rfl ?_
      refine r_bipush dX12_perils_41 (by decide) (by decide) ?_
      refine r_iload dX12_perils_43 4 rfl (Or.inl rfl) ?_
      refine r_iadd dX12_perils_45 ?_
      obtain ⟨v46, hg46, hr⟩ := bnd hr
      refine r_iald dX12_perils_46 hg46 ?_
      refine r_iload_n dX12_perils_47 rfl 1 rfl (Or.inl rfl) ?_
      refine r_icmp_eq dX12_perils_48 (tgt := 68) (by decide) (fun hc => ?_) (fun hc => ?_)
      · have hr := ifp hr hc
        exact oX12_perils_b68 (K := K) (fun r z => k0 r z) (fun _ _ z => k1 _ _ z) (fun _ _ z => k2 _ _ z) hr hk
      · have hr := ifn hr hc
        refine r_iload_n dX12_perils_51 rfl 2 rfl (Or.inl rfl) ?_
        refine r_aload_n dX12_perils_52 rfl 0 rfl (nl rfl) ?_
        refine r_get 12 6 (o := a0) (w := (50, h a0 6)) (T := TX12) (ref := "FollowingRefsModel") rfl (by decide) rfl (by decide) inlX12 (wsl_7 _ (List.mem_of_getElem? (i := 8) rfl)) rfl dX12_perils_53 rfl ?_
        refine r_bipush dX12_perils_56 (by decide) (by decide) ?_
        refine r_iload dX12_perils_58 4 rfl (Or.inl rfl) ?_
        refine r_iadd dX12_perils_60 ?_
        obtain ⟨v61, hg61, hr⟩ := bnd hr
        refine r_iald dX12_perils_61 hg61 ?_
        obtain ⟨r62, hg62, hr⟩ := bnd hr
        refine k_S (as := [(0, l2), (0, v61)]) (rest := []) (X := (some (2, r62), h)) (oX12_bitOf hg62) gX12_bitOf rfl (wsl_58 _ (List.mem_of_getElem? (i := 3) rfl)) rfl dX12_perils_62 rfl ?_
        refine r_scast 0 (v := (2, r62)) (w := (0, r62)) rfl zc hTz (st' := [(0, r62)]) rfl ?_
        refine r_if_eq dX12_perils_65 (tgt := 83) (by decide) (fun hc => ?_) (fun hc => ?_)
        · have hr := ifp hr hc
          refine r_iinc (k := 4) (v := l4) dX12_perils_83 rfl (by decide) (lv' := [(4, (0, w32 (l4 + 1))), (0, (22, a0)), (1, (0, a1)), (2, (0, l2)), (3, (0, l3))]) rfl ?_
          refine r_goto dX12_perils_86 (tgt := 12) (by decide) ?_
          refine r_sub [1, 2, 3, 4, 0] (lv' := [(0, (22, a0)), (1, (0, a1)), (2, (0, l2)), (3, (0, l3)), (4, (0, w32 (l4 + 1)))]) rfl ?_
          obtain rfl := Option.some.inj hr
          exact k2 _ _ hk
        · have hr := ifn hr hc
          exact oX12_perils_b68 (K := K) (fun r z => k0 r z) (fun _ _ z => k1 _ _ z) (fun _ _ z => k2 _ _ z) hr hk
set_option maxRecDepth 100000 in
set_option maxHeartbeats 4000000 in
theorem oX12_perils_s4 {a0 a1 l2 l3 : Int} {K : (Int × Int) ⊕ (Int) → Prop} (k0 : ∀ r, K (.inr (r)) → x = (some (0, r), h)) (k1 : ∀ (l2 : Int) (l3 : Int), K (.inl (l2, l3)) → Wq p l e R s m args below meth c D G A H0 true n0 M_X12_perils x 0 0 4 [(0, (22, a0)), (1, (0, a1)), (2, (0, l2)), (3, (0, l3))] [] h) {r : (Int × Int) ⊕ (Int)} (hr : fX12_perils_s4 h a0 a1 (l2, l3) = some r) (hk : K r) : Wq p l e R s m args below meth c D G A H0 true n0 M_X12_perils x 0 0 4 [(0, (22, a0)), (1, (0, a1)), (2, (0, l2)), (3, (0, l3))] [] h := by
  unfold fX12_perils_s4 at hr
  refine r_iload_n dX12_perils_4 rfl 3 rfl (Or.inl rfl) ?_
  refine r_iconst dX12_perils_5 (by decide) ?_
  refine r_icmp_ge dX12_perils_6 (tgt := 95) (by decide) (fun hc => ?_) (fun hc => ?_)
  · have hr := ifn hr hc
    refine r_iload_n dX12_perils_95 rfl 2 rfl (Or.inl rfl) ?_
    obtain rfl := Option.some.inj hr
    exact r_ret dX12_perils_96 rfl (Or.inl ⟨rfl, rfl⟩) (k0 _ hk) ⟨rfl, rfl⟩
  · have hr := ifp hr hc
    refine r_iconst dX12_perils_9 (by decide) ?_
    refine r_istore dX12_perils_10 (Or.inl rfl) (by decide) (lv' := [(4, (0, 0)), (0, (22, a0)), (1, (0, a1)), (2, (0, l2)), (3, (0, l3))]) rfl ?_
    refine r_sub [1, 2, 3, 4, 0] (lv' := [(0, (22, a0)), (1, (0, a1)), (2, (0, l2)), (3, (0, l3)), (4, (0, 0))]) rfl ?_
    exact lp_ok (w := fun (q : Int × Int) => Wq p l e R s m args below meth c D G A H0 true n0 M_X12_perils x 0 0 12 [(0, (22, a0)), (1, (0, a1)), (2, (0, q.1)), (3, (0, l3)), (4, (0, q.2))] [] (h)) (K := K) (fun ⟨q0, q1⟩ r h1 h2 => oX12_perils_s12 (K := Sum.elim (fun (q : Int × Int) => Wq p l e R s m args below meth c D G A H0 true n0 M_X12_perils x 0 0 12 [(0, (22, a0)), (1, (0, a1)), (2, (0, q.1)), (3, (0, l3)), (4, (0, q.2))] [] (h)) (K)) (fun r z => k0 r z) (fun _ _ z => k1 _ _ z) (fun _ _ z => z) h1 h2) hr hk
set_option maxRecDepth 100000 in
set_option maxHeartbeats 4000000 in
theorem oX12_perils_b0 {a0 a1 : Int} {K : Int → Prop} (k0 : ∀ r, K (r) → x = (some (0, r), h)) {r : Int} (hr : fX12_perils h a0 a1 = some r) (hk : K r) : Wq p l e R s m args below meth c D G A H0 true n0 M_X12_perils x 0 0 0 [(0, (22, a0)), (1, (0, a1))] [] h := by
  unfold fX12_perils at hr
  refine r_iconst dX12_perils_0 (by decide) ?_
  refine r_istore_n dX12_perils_1 rfl (Or.inl rfl) (by decide) (lv' := [(2, (0, 0)), (0, (22, a0)), (1, (0, a1))]) rfl ?_
  refine r_iconst dX12_perils_2 (by decide) ?_
  refine r_istore_n dX12_perils_3 rfl (Or.inl rfl) (by decide) (lv' := [(3, (0, 0)), (2, (0, 0)), (0, (22, a0)), (1, (0, a1))]) rfl ?_
  refine r_sub [2, 3, 1, 0] (lv' := [(0, (22, a0)), (1, (0, a1)), (2, (0, 0)), (3, (0, 0))]) rfl ?_
  exact lp_ok (w := fun (q : Int × Int) => Wq p l e R s m args below meth c D G A H0 true n0 M_X12_perils x 0 0 4 [(0, (22, a0)), (1, (0, a1)), (2, (0, q.1)), (3, (0, q.2))] [] (h)) (K := K) (fun ⟨q0, q1⟩ r h1 h2 => oX12_perils_s4 (K := Sum.elim (fun (q : Int × Int) => Wq p l e R s m args below meth c D G A H0 true n0 M_X12_perils x 0 0 4 [(0, (22, a0)), (1, (0, a1)), (2, (0, q.1)), (3, (0, q.2))] [] (h)) (K)) (fun r z => k0 r z) (fun _ _ z => z) h1 h2) hr hk
end M_X12_perils
theorem oX12_perils {l : Launch} {D : va_G} {G : gG} {h : hH} {a0 a1 : Int} {r : Int} (hr : fX12_perils h a0 a1 = some r) : Ctr l D G true yX12_perils M_X12_perils [(22, a0), (0, a1)] h (some (0, r), h) :=
  Ctr_of (by decide) rfl (fun z => by cases z) (nl rfl) (fun {p e R s m args below meth c A H0} => by
    exact oX12_perils_b0 (K := fun z9 => z9 = r) (fun r9 z => by rw [z]) hr rfl)
/-! X12_table -/
theorem dX12_table_0 : decode cX12_table 0 = .ok (.aload_n 0, 1) := by decide +kernel
theorem dX12_table_1 : decode cX12_table 1 = .ok (.iconst 0, 1) := by decide +kernel
theorem dX12_table_2 : decode cX12_table 2 = .ok (.putfield 1, 3) := by decide +kernel
theorem dX12_table_5 : decode cX12_table 5 = .ok (.aload_n 0, 1) := by decide +kernel
theorem dX12_table_6 : decode cX12_table 6 = .ok (.iload_n 1, 1) := by decide +kernel
theorem dX12_table_7 : decode cX12_table 7 = .ok (.invokevirtual 317, 3) := by decide +kernel
theorem dX12_table_10 : decode cX12_table 10 = .ok (.ifCond .ne 5, 3) := by decide +kernel
theorem dX12_table_13 : decode cX12_table 13 = .ok (.iconst (-1), 1) := by decide +kernel
theorem dX12_table_14 : decode cX12_table 14 = .ok (.ireturn, 1) := by decide +kernel
theorem dX12_table_15 : decode cX12_table 15 = .ok (.iconst 0, 1) := by decide +kernel
theorem dX12_table_16 : decode cX12_table 16 = .ok (.istore_n 3, 1) := by decide +kernel
theorem dX12_table_17 : decode cX12_table 17 = .ok (.iconst 0, 1) := by decide +kernel
theorem dX12_table_18 : decode cX12_table 18 = .ok (.istore 4, 2) := by decide +kernel
theorem dX12_table_20 : decode cX12_table 20 = .ok (.iconst 0, 1) := by decide +kernel
theorem dX12_table_21 : decode cX12_table 21 = .ok (.istore 5, 2) := by decide +kernel
theorem dX12_table_23 : decode cX12_table 23 = .ok (.iconst 0, 1) := by decide +kernel
theorem dX12_table_24 : decode cX12_table 24 = .ok (.istore 6, 2) := by decide +kernel
theorem dX12_table_26 : decode cX12_table 26 = .ok (.iload 6, 2) := by decide +kernel
theorem dX12_table_28 : decode cX12_table 28 = .ok (.aload_n 0, 1) := by decide +kernel
theorem dX12_table_29 : decode cX12_table 29 = .ok (.getfield 33, 3) := by decide +kernel
theorem dX12_table_32 : decode cX12_table 32 = .ok (.iconst 1, 1) := by decide +kernel
theorem dX12_table_33 : decode cX12_table 33 = .ok (.iaload, 1) := by decide +kernel
theorem dX12_table_34 : decode cX12_table 34 = .ok (.if_icmp .ge 34, 3) := by decide +kernel
theorem dX12_table_37 : decode cX12_table 37 = .ok (.iload_n 3, 1) := by decide +kernel
theorem dX12_table_38 : decode cX12_table 38 = .ok (.aload_n 0, 1) := by decide +kernel
theorem dX12_table_39 : decode cX12_table 39 = .ok (.getfield 33, 3) := by decide +kernel
theorem dX12_table_42 : decode cX12_table 42 = .ok (.bipush 40, 2) := by decide +kernel
theorem dX12_table_44 : decode cX12_table 44 = .ok (.iload 6, 2) := by decide +kernel
theorem dX12_table_46 : decode cX12_table 46 = .ok (.iadd, 1) := by decide +kernel
theorem dX12_table_47 : decode cX12_table 47 = .ok (.iaload, 1) := by decide +kernel
theorem dX12_table_48 : decode cX12_table 48 = .ok (.iload_n 1, 1) := by decide +kernel
theorem dX12_table_49 : decode cX12_table 49 = .ok (.if_icmp .ne 10, 3) := by decide +kernel
theorem dX12_table_52 : decode cX12_table 52 = .ok (.iconst 1, 1) := by decide +kernel
theorem dX12_table_53 : decode cX12_table 53 = .ok (.iload 6, 2) := by decide +kernel
theorem dX12_table_55 : decode cX12_table 55 = .ok (.ishl, 1) := by decide +kernel
theorem dX12_table_56 : decode cX12_table 56 = .ok (.goto 4, 3) := by decide +kernel
theorem dX12_table_59 : decode cX12_table 59 = .ok (.iconst 0, 1) := by decide +kernel
theorem dX12_table_60 : decode cX12_table 60 = .ok (.ior, 1) := by decide +kernel
theorem dX12_table_61 : decode cX12_table 61 = .ok (.istore_n 3, 1) := by decide +kernel
theorem dX12_table_62 : decode cX12_table 62 = .ok (.iinc 6 1, 3) := by decide +kernel
theorem dX12_table_65 : decode cX12_table 65 = .ok (.goto (-39), 3) := by decide +kernel
theorem dX12_table_68 : decode cX12_table 68 = .ok (.iconst 0, 1) := by decide +kernel
theorem dX12_table_69 : decode cX12_table 69 = .ok (.istore 6, 2) := by decide +kernel
theorem dX12_table_71 : decode cX12_table 71 = .ok (.iload 6, 2) := by decide +kernel
theorem dX12_table_73 : decode cX12_table 73 = .ok (.aload_n 0, 1) := by decide +kernel
theorem dX12_table_74 : decode cX12_table 74 = .ok (.getfield 33, 3) := by decide +kernel
theorem dX12_table_77 : decode cX12_table 77 = .ok (.iconst 2, 1) := by decide +kernel
theorem dX12_table_78 : decode cX12_table 78 = .ok (.iaload, 1) := by decide +kernel
theorem dX12_table_79 : decode cX12_table 79 = .ok (.if_icmp .ge 63, 3) := by decide +kernel
theorem dX12_table_82 : decode cX12_table 82 = .ok (.iload 4, 2) := by decide +kernel
theorem dX12_table_84 : decode cX12_table 84 = .ok (.aload_n 0, 1) := by decide +kernel
theorem dX12_table_85 : decode cX12_table 85 = .ok (.getfield 33, 3) := by decide +kernel
theorem dX12_table_88 : decode cX12_table 88 = .ok (.bipush 58, 2) := by decide +kernel
theorem dX12_table_90 : decode cX12_table 90 = .ok (.iload 6, 2) := by decide +kernel
theorem dX12_table_92 : decode cX12_table 92 = .ok (.iadd, 1) := by decide +kernel
theorem dX12_table_93 : decode cX12_table 93 = .ok (.iaload, 1) := by decide +kernel
theorem dX12_table_94 : decode cX12_table 94 = .ok (.iload_n 1, 1) := by decide +kernel
theorem dX12_table_95 : decode cX12_table 95 = .ok (.if_icmp .ne 10, 3) := by decide +kernel
theorem dX12_table_98 : decode cX12_table 98 = .ok (.iconst 1, 1) := by decide +kernel
theorem dX12_table_99 : decode cX12_table 99 = .ok (.iload 6, 2) := by decide +kernel
theorem dX12_table_101 : decode cX12_table 101 = .ok (.ishl, 1) := by decide +kernel
theorem dX12_table_102 : decode cX12_table 102 = .ok (.goto 4, 3) := by decide +kernel
theorem dX12_table_105 : decode cX12_table 105 = .ok (.iconst 0, 1) := by decide +kernel
theorem dX12_table_106 : decode cX12_table 106 = .ok (.ior, 1) := by decide +kernel
theorem dX12_table_107 : decode cX12_table 107 = .ok (.istore 4, 2) := by decide +kernel
theorem dX12_table_109 : decode cX12_table 109 = .ok (.iload 5, 2) := by decide +kernel
theorem dX12_table_111 : decode cX12_table 111 = .ok (.aload_n 0, 1) := by decide +kernel
theorem dX12_table_112 : decode cX12_table 112 = .ok (.getfield 33, 3) := by decide +kernel
theorem dX12_table_115 : decode cX12_table 115 = .ok (.bipush 76, 2) := by decide +kernel
theorem dX12_table_117 : decode cX12_table 117 = .ok (.iload 6, 2) := by decide +kernel
theorem dX12_table_119 : decode cX12_table 119 = .ok (.iadd, 1) := by decide +kernel
theorem dX12_table_120 : decode cX12_table 120 = .ok (.iaload, 1) := by decide +kernel
theorem dX12_table_121 : decode cX12_table 121 = .ok (.iload_n 1, 1) := by decide +kernel
theorem dX12_table_122 : decode cX12_table 122 = .ok (.if_icmp .ne 10, 3) := by decide +kernel
theorem dX12_table_125 : decode cX12_table 125 = .ok (.iconst 1, 1) := by decide +kernel
theorem dX12_table_126 : decode cX12_table 126 = .ok (.iload 6, 2) := by decide +kernel
theorem dX12_table_128 : decode cX12_table 128 = .ok (.ishl, 1) := by decide +kernel
theorem dX12_table_129 : decode cX12_table 129 = .ok (.goto 4, 3) := by decide +kernel
theorem dX12_table_132 : decode cX12_table 132 = .ok (.iconst 0, 1) := by decide +kernel
theorem dX12_table_133 : decode cX12_table 133 = .ok (.ior, 1) := by decide +kernel
theorem dX12_table_134 : decode cX12_table 134 = .ok (.istore 5, 2) := by decide +kernel
theorem dX12_table_136 : decode cX12_table 136 = .ok (.iinc 6 1, 3) := by decide +kernel
theorem dX12_table_139 : decode cX12_table 139 = .ok (.goto (-68), 3) := by decide +kernel
theorem dX12_table_142 : decode cX12_table 142 = .ok (.iload_n 2, 1) := by decide +kernel
theorem dX12_table_143 : decode cX12_table 143 = .ok (.tableswitch 56 0 4 #[33, 42, 44, 47, 50], 33) := by decide +kernel
theorem dX12_table_176 : decode cX12_table 176 = .ok (.aload_n 0, 1) := by decide +kernel
theorem dX12_table_177 : decode cX12_table 177 = .ok (.getfield 33, 3) := by decide +kernel
theorem dX12_table_180 : decode cX12_table 180 = .ok (.iconst 4, 1) := by decide +kernel
theorem dX12_table_181 : decode cX12_table 181 = .ok (.iload_n 1, 1) := by decide +kernel
theorem dX12_table_182 : decode cX12_table 182 = .ok (.iadd, 1) := by decide +kernel
theorem dX12_table_183 : decode cX12_table 183 = .ok (.iaload, 1) := by decide +kernel
theorem dX12_table_184 : decode cX12_table 184 = .ok (.ireturn, 1) := by decide +kernel
theorem dX12_table_185 : decode cX12_table 185 = .ok (.iload_n 3, 1) := by decide +kernel
theorem dX12_table_186 : decode cX12_table 186 = .ok (.ireturn, 1) := by decide +kernel
theorem dX12_table_187 : decode cX12_table 187 = .ok (.iload 4, 2) := by decide +kernel
theorem dX12_table_189 : decode cX12_table 189 = .ok (.ireturn, 1) := by decide +kernel
theorem dX12_table_190 : decode cX12_table 190 = .ok (.iload 5, 2) := by decide +kernel
theorem dX12_table_192 : decode cX12_table 192 = .ok (.ireturn, 1) := by decide +kernel
theorem dX12_table_193 : decode cX12_table 193 = .ok (.aload_n 0, 1) := by decide +kernel
theorem dX12_table_194 : decode cX12_table 194 = .ok (.iload_n 1, 1) := by decide +kernel
theorem dX12_table_195 : decode cX12_table 195 = .ok (.invokevirtual 505, 3) := by decide +kernel
theorem dX12_table_198 : decode cX12_table 198 = .ok (.ireturn, 1) := by decide +kernel
theorem dX12_table_199 : decode cX12_table 199 = .ok (.iconst (-1), 1) := by decide +kernel
theorem dX12_table_200 : decode cX12_table 200 = .ok (.ireturn, 1) := by decide +kernel
abbrev M_X12_table : mM := (cX12_table, 7, RX12, some .int, false, 2, 45, 0, 0)
theorem gX12_table : cI yX12_table M_X12_table 2 := ⟨(wsl_57 _ (List.mem_of_getElem? (i := 20) rfl)), (wsl_57 _ (List.mem_of_getElem? (i := 21) rfl)), (wsl_1 _ (List.mem_of_getElem? (i := 5) rfl)), (wsl_57 _ (List.mem_of_getElem? (i := 22) rfl)), by decide +kernel⟩
noncomputable def fX12_table_b60 (h : hH) (a0 a1 a2 l4 l5 l6 s0 s1 : Int) : Option ((Int × Int) ⊕ (Int × hH)) :=
  some (.inl (iorD s1 s0, w32 (l6 + 1)))
noncomputable def fX12_table_b133 (h : hH) (a0 a1 a2 l3 l4 l6 s0 s1 : Int) : Option ((Int × Int × Int) ⊕ (Int × hH)) :=
  some (.inl (l4, iorD s1 s0, w32 (l6 + 1)))
noncomputable def fX12_table_b106 (h : hH) (a0 a1 a2 l3 l5 l6 s0 s1 : Int) : Option ((Int × Int × Int) ⊕ (Int × hH)) :=
  (aget h (h a0 6) (w32 (76 + l6))).bind fun v120 =>
  if v120 = a1 then
    fX12_table_b133 h a0 a1 a2 l3 (iorD s1 s0) l6 (ishD 1 l6) l5
  else
    fX12_table_b133 h a0 a1 a2 l3 (iorD s1 s0) l6 0 l5
noncomputable def fX12_table_s71 (h : hH) (a0 a1 a2 l3 : Int) : Int × Int × Int → Option ((Int × Int × Int) ⊕ (Int × hH)) := fun (l4, l5, l6) =>
  (aget h (h a0 6) 2).bind fun v78 =>
  if l6 < v78 then
    (aget h (h a0 6) (w32 (58 + l6))).bind fun v93 =>
    if v93 = a1 then
      fX12_table_b106 h a0 a1 a2 l3 l5 l6 (ishD 1 l6) l4
    else
      fX12_table_b106 h a0 a1 a2 l3 l5 l6 0 l4
  else
    if a2 = 0 then
      (aget h (h a0 6) (w32 (4 + a1))).bind fun v183 =>
      some (.inr ((v183, h)))
    else
      if a2 = 1 then
        some (.inr ((l3, h)))
      else
        if a2 = 2 then
          some (.inr ((l4, h)))
        else
          if a2 = 3 then
            some (.inr ((l5, h)))
          else
            if a2 = 4 then
              (fX12_perils h a0 a1).bind fun r195 =>
              some (.inr ((r195, h)))
            else
              some (.inr ((-1, h)))
noncomputable def fX12_table_s26 (h : hH) (a0 a1 a2 l4 l5 : Int) : Int × Int → Option ((Int × Int) ⊕ (Int × hH)) := fun (l3, l6) =>
  (aget h (h a0 6) 1).bind fun v33 =>
  if l6 < v33 then
    (aget h (h a0 6) (w32 (40 + l6))).bind fun v47 =>
    if v47 = a1 then
      fX12_table_b60 h a0 a1 a2 l4 l5 l6 (ishD 1 l6) l3
    else
      fX12_table_b60 h a0 a1 a2 l4 l5 l6 0 l3
  else
    (lpO (fX12_table_s71 h a0 a1 a2 l3) (l4, l5, 0)).map (fun z9 => .inr (z9))
noncomputable def fX12_table (h : hH) (a0 a1 a2 : Int) : Option (Int × hH) :=
  (pput h a0 0 0).bind fun h2 =>
  (fX12_isTable h2 a0 a1).bind fun r7 =>
  if r7 = 0 then
    some (-1, h2)
  else
    lpO (fX12_table_s26 h2 a0 a1 a2 0 0) (0, 0)
section M_X12_table
variable {p : Program} {l : Launch} {e : Env} {R : Room} {s : State} {m : MethodId} {args : Array Value} {below : List Frame} {meth : Method} {c : Code} {D : va_G} {G : gG} {A : Nat → Prop} {H0 : Heap} {n0 : Int} {x : Option vV × hH} {h : hH}
set_option maxRecDepth 100000 in
set_option maxHeartbeats 4000000 in
theorem oX12_table_b60 {a0 a1 a2 l4 l5 l6 s0 s1 : Int} {K : (Int × Int) ⊕ (Int × hH) → Prop} (k0 : ∀ r, K (.inr (r)) → x = (some (0, r.1), r.2)) (k1 : ∀ (l3 : Int) (l6 : Int), K (.inl (l3, l6)) → Wq p l e R s m args below meth c D G A H0 true n0 M_X12_table x 0 0 26 [(0, (22, a0)), (1, (0, a1)), (2, (0, a2)), (3, (0, l3)), (4, (2, l4)), (5, (2, l5)), (6, (0, l6))] [] h) {r : (Int × Int) ⊕ (Int × hH)} (hr : fX12_table_b60 h a0 a1 a2 l4 l5 l6 s0 s1 = some r) (hk : K r) : Wq p l e R s m args below meth c D G A H0 true n0 M_X12_table x 0 0 60 [(0, (22, a0)), (1, (0, a1)), (2, (0, a2)), (4, (2, l4)), (5, (2, l5)), (6, (0, l6))] [(0, s0), (0, s1)] h := by
  unfold fX12_table_b60 at hr
  refine r_ior dX12_table_60 ?_
  refine r_istore_n dX12_table_61 rfl (Or.inl rfl) (by decide) (lv' := [(3, (0, iorD s1 s0)), (0, (22, a0)), (1, (0, a1)), (2, (0, a2)), (4, (2, l4)), (5, (2, l5)), (6, (0, l6))]) rfl ?_
  refine r_iinc (k := 6) (v := l6) dX12_table_62 rfl (by decide) (lv' := [(6, (0, w32 (l6 + 1))), (3, (0, iorD s1 s0)), (0, (22, a0)), (1, (0, a1)), (2, (0, a2)), (4, (2, l4)), (5, (2, l5))]) rfl ?_
  refine r_goto dX12_table_65 (tgt := 26) (by decide) ?_
  refine r_sub [2, 3, 4, 1, 5, 6, 0] (lv' := [(0, (22, a0)), (1, (0, a1)), (2, (0, a2)), (3, (0, iorD s1 s0)), (4, (2, l4)), (5, (2, l5)), (6, (0, w32 (l6 + 1)))]) rfl ?_
  obtain rfl := Option.some.inj hr
  exact k1 _ _ hk
set_option maxRecDepth 100000 in
set_option maxHeartbeats 4000000 in
theorem oX12_table_b133 {a0 a1 a2 l3 l4 l6 s0 s1 : Int} {K : (Int × Int × Int) ⊕ (Int × hH) → Prop} (k0 : ∀ r, K (.inr (r)) → x = (some (0, r.1), r.2)) (k1 : ∀ (l4 : Int) (l5 : Int) (l6 : Int), K (.inl (l4, l5, l6)) → Wq p l e R s m args below meth c D G A H0 true n0 M_X12_table x 0 0 71 [(0, (22, a0)), (1, (0, a1)), (2, (0, a2)), (3, (0, l3)), (4, (0, l4)), (5, (0, l5)), (6, (0, l6))] [] h) {r : (Int × Int × Int) ⊕ (Int × hH)} (hr : fX12_table_b133 h a0 a1 a2 l3 l4 l6 s0 s1 = some r) (hk : K r) : Wq p l e R s m args below meth c D G A H0 true n0 M_X12_table x 0 0 133 [(0, (22, a0)), (1, (0, a1)), (2, (0, a2)), (3, (0, l3)), (4, (0, l4)), (6, (0, l6))] [(0, s0), (0, s1)] h := by
  unfold fX12_table_b133 at hr
  refine r_ior dX12_table_133 ?_
  refine r_istore dX12_table_134 (Or.inl rfl) (by decide) (lv' := [(5, (0, iorD s1 s0)), (0, (22, a0)), (1, (0, a1)), (2, (0, a2)), (3, (0, l3)), (4, (0, l4)), (6, (0, l6))]) rfl ?_
  refine r_iinc (k := 6) (v := l6) dX12_table_136 rfl (by decide) (lv' := [(6, (0, w32 (l6 + 1))), (5, (0, iorD s1 s0)), (0, (22, a0)), (1, (0, a1)), (2, (0, a2)), (3, (0, l3)), (4, (0, l4))]) rfl ?_
  refine r_goto dX12_table_139 (tgt := 71) (by decide) ?_
  refine r_sub [2, 3, 4, 5, 6, 1, 0] (lv' := [(0, (22, a0)), (1, (0, a1)), (2, (0, a2)), (3, (0, l3)), (4, (0, l4)), (5, (0, iorD s1 s0)), (6, (0, w32 (l6 + 1)))]) rfl ?_
  obtain rfl := Option.some.inj hr
  exact k1 _ _ _ hk
set_option maxRecDepth 100000 in
set_option maxHeartbeats 4000000 in
theorem oX12_table_b106 {a0 a1 a2 l3 l5 l6 s0 s1 : Int} {K : (Int × Int × Int) ⊕ (Int × hH) → Prop} (k0 : ∀ r, K (.inr (r)) → x = (some (0, r.1), r.2)) (k1 : ∀ (l4 : Int) (l5 : Int) (l6 : Int), K (.inl (l4, l5, l6)) → Wq p l e R s m args below meth c D G A H0 true n0 M_X12_table x 0 0 71 [(0, (22, a0)), (1, (0, a1)), (2, (0, a2)), (3, (0, l3)), (4, (0, l4)), (5, (0, l5)), (6, (0, l6))] [] h) {r : (Int × Int × Int) ⊕ (Int × hH)} (hr : fX12_table_b106 h a0 a1 a2 l3 l5 l6 s0 s1 = some r) (hk : K r) : Wq p l e R s m args below meth c D G A H0 true n0 M_X12_table x 0 0 106 [(0, (22, a0)), (1, (0, a1)), (2, (0, a2)), (3, (0, l3)), (5, (0, l5)), (6, (0, l6))] [(0, s0), (0, s1)] h := by
  unfold fX12_table_b106 at hr
  refine r_ior dX12_table_106 ?_
  refine r_istore dX12_table_107 (Or.inl rfl) (by decide) (lv' := [(4, (0, iorD s1 s0)), (0, (22, a0)), (1, (0, a1)), (2, (0, a2)), (3, (0, l3)), (5, (0, l5)), (6, (0, l6))]) rfl ?_
  refine r_iload dX12_table_109 5 rfl (Or.inl rfl) ?_
  refine r_aload_n dX12_table_111 rfl 1 rfl (nl rfl) ?_
  refine r_get 12 6 (o := a0) (w := (50, h a0 6)) (T := TX12) (ref := "FollowingRefsModel") rfl (by decide) rfl (by decide) inlX12 (wsl_7 _ (List.mem_of_getElem? (i := 8) rfl)) rfl dX12_table_112 rfl ?_
  refine r_bipush dX12_table_115 (by decide) (by decide) ?_
  refine r_iload dX12_table_117 6 rfl (Or.inl rfl) ?_
  refine r_iadd dX12_table_119 ?_
  obtain ⟨v120, hg120, hr⟩ := bnd hr
  refine r_iald dX12_table_120 hg120 ?_
  refine r_iload_n dX12_table_121 rfl 2 rfl (Or.inl rfl) ?_
  refine r_icmp_ne dX12_table_122 (tgt := 132) (by decide) (fun hc => ?_) (fun hc => ?_)
  · have hr := ifn hr hc
    refine r_iconst dX12_table_132 (by decide) ?_
    refine r_sub [1, 2, 3, 4, 0, 6] (lv' := [(0, (22, a0)), (1, (0, a1)), (2, (0, a2)), (3, (0, l3)), (4, (0, iorD s1 s0)), (6, (0, l6))]) rfl ?_
    exact oX12_table_b133 (K := K) (fun r z => k0 r z) (fun _ _ _ z => k1 _ _ _ z) hr hk
  · have hr := ifp hr hc
    refine r_iconst dX12_table_125 (by decide) ?_
    refine r_iload dX12_table_126 6 rfl (Or.inl rfl) ?_
    refine r_ishl dX12_table_128 ?_
    refine r_goto dX12_table_129 (tgt := 133) (by decide) ?_
    refine r_sub [1, 2, 3, 4, 0, 6] (lv' := [(0, (22, a0)), (1, (0, a1)), (2, (0, a2)), (3, (0, l3)), (4, (0, iorD s1 s0)), (6, (0, l6))]) rfl ?_
    exact oX12_table_b133 (K := K) (fun r z => k0 r z) (fun _ _ _ z => k1 _ _ _ z) hr hk
set_option maxRecDepth 100000 in
set_option maxHeartbeats 4000000 in
theorem oX12_table_s71 {a0 a1 a2 l3 l4 l5 l6 : Int} {K : (Int × Int × Int) ⊕ (Int × hH) → Prop} (k0 : ∀ r, K (.inr (r)) → x = (some (0, r.1), r.2)) (k1 : ∀ (l4 : Int) (l5 : Int) (l6 : Int), K (.inl (l4, l5, l6)) → Wq p l e R s m args below meth c D G A H0 true n0 M_X12_table x 0 0 71 [(0, (22, a0)), (1, (0, a1)), (2, (0, a2)), (3, (0, l3)), (4, (0, l4)), (5, (0, l5)), (6, (0, l6))] [] h) {r : (Int × Int × Int) ⊕ (Int × hH)} (hr : fX12_table_s71 h a0 a1 a2 l3 (l4, l5, l6) = some r) (hk : K r) : Wq p l e R s m args below meth c D G A H0 true n0 M_X12_table x 0 0 71 [(0, (22, a0)), (1, (0, a1)), (2, (0, a2)), (3, (0, l3)), (4, (0, l4)), (5, (0, l5)), (6, (0, l6))] [] h := by
  unfold fX12_table_s71 at hr
  refine r_iload dX12_table_71 6 rfl (Or.inl rfl) ?_
  refine r_aload_n dX12_table_73 rfl 0 rfl (nl rfl) ?_
  refine r_get 12 6 (o := a0) (w := (50, h a0 6)) (T := TX12) (ref := "FollowingRefsModel") rfl (by decide) rfl (by decide) inlX12 (wsl_7 _ (List.mem_of_getElem? (i := 8) rfl)) rfl dX12_table_74 rfl ?_
  refine r_iconst dX12_table_77 (by decide) ?_
  obtain ⟨v78, hg78, hr⟩ := bnd hr
  refine r_iald dX12_table_78 hg78 ?_
  refine r_icmp_ge dX12_table_79 (tgt := 142) (by decide) (fun hc => ?_) (fun hc => ?_)
  · have hr := ifn hr hc
    refine r_iload_n dX12_table_142 rfl 2 rfl (Or.inl rfl) ?_
    by_cases hs0 : a2 = 0
    · have hr := ifp hr hs0
      refine r_tableIn dX12_table_143 (by omega) (by omega) (off := 33) (by rw [hs0]; rfl) (tgt := 176) (by decide) ?_
      refine r_aload_n dX12_table_176 rfl 0 rfl (nl rfl) ?_
      refine r_get 12 6 (o := a0) (w := (50, h a0 6)) (T := TX12) (ref := "FollowingRefsModel") rfl (by decide) rfl (by decide) inlX12 (wsl_7 _ (List.mem_of_getElem? (i := 8) rfl)) rfl dX12_table_177 rfl ?_
      refine r_iconst dX12_table_180 (by decide) ?_
      refine r_iload_n dX12_table_181 rfl 1 rfl (Or.inl rfl) ?_
      refine r_iadd dX12_table_182 ?_
      obtain ⟨v183, hg183, hr⟩ := bnd hr
      refine r_iald dX12_table_183 hg183 ?_
      obtain rfl := Option.some.inj hr
      exact r_ret dX12_table_184 rfl (Or.inl ⟨rfl, rfl⟩) (k0 _ hk) ⟨rfl, rfl⟩
    have hr := ifn hr hs0
    by_cases hs1 : a2 = 1
    · have hr := ifp hr hs1
      refine r_tableIn dX12_table_143 (by omega) (by omega) (off := 42) (by rw [hs1]; rfl) (tgt := 185) (by decide) ?_
      refine r_iload_n dX12_table_185 rfl 3 rfl (Or.inl rfl) ?_
      obtain rfl := Option.some.inj hr
      exact r_ret dX12_table_186 rfl (Or.inl ⟨rfl, rfl⟩) (k0 _ hk) ⟨rfl, rfl⟩
    have hr := ifn hr hs1
    by_cases hs2 : a2 = 2
    · have hr := ifp hr hs2
      refine r_tableIn dX12_table_143 (by omega) (by omega) (off := 44) (by rw [hs2]; rfl) (tgt := 187) (by decide) ?_
      refine r_iload dX12_table_187 4 rfl (Or.inl rfl) ?_
      obtain rfl := Option.some.inj hr
      exact r_ret dX12_table_189 rfl (Or.inl ⟨rfl, rfl⟩) (k0 _ hk) ⟨rfl, rfl⟩
    have hr := ifn hr hs2
    by_cases hs3 : a2 = 3
    · have hr := ifp hr hs3
      refine r_tableIn dX12_table_143 (by omega) (by omega) (off := 47) (by rw [hs3]; rfl) (tgt := 190) (by decide) ?_
      refine r_iload dX12_table_190 5 rfl (Or.inl rfl) ?_
      obtain rfl := Option.some.inj hr
      exact r_ret dX12_table_192 rfl (Or.inl ⟨rfl, rfl⟩) (k0 _ hk) ⟨rfl, rfl⟩
    have hr := ifn hr hs3
    by_cases hs4 : a2 = 4
    · have hr := ifp hr hs4
      refine r_tableIn dX12_table_143 (by omega) (by omega) (off := 50) (by rw [hs4]; rfl) (tgt := 193) (by decide) ?_
      refine r_aload_n dX12_table_193 rfl 0 rfl (nl rfl) ?_
      refine r_iload_n dX12_table_194 rfl 1 rfl (Or.inl rfl) ?_
      obtain ⟨r195, hg195, hr⟩ := bnd hr
      refine k_V (ci := 12) (o := a0) (T := TX12) (as := [(0, a1)]) (rest := []) (X := (some (0, r195), h)) (oX12_perils hg195) gX12_perils rfl (by decide) rfl (wsl_57 _ (List.mem_of_getElem? (i := 23) rfl)) rfl dX12_table_195 rfl ?_
      obtain rfl := Option.some.inj hr
      exact r_ret dX12_table_198 rfl (Or.inl ⟨rfl, rfl⟩) (k0 _ hk) ⟨rfl, rfl⟩
    have hr := ifn hr hs4
    refine r_tableOut dX12_table_143 (by omega) (tgt := 199) (by decide) ?_
    refine r_iconst dX12_table_199 (by decide) ?_
    obtain rfl := Option.some.inj hr
    exact r_ret dX12_table_200 rfl (Or.inl ⟨rfl, rfl⟩) (k0 _ hk) ⟨rfl, rfl⟩
  · have hr := ifp hr hc
    refine r_iload dX12_table_82 4 rfl (Or.inl rfl) ?_
    refine r_aload_n dX12_table_84 rfl 0 rfl (nl rfl) ?_
    refine r_get 12 6 (o := a0) (w := (50, h a0 6)) (T := TX12) (ref := "FollowingRefsModel") rfl (by decide) rfl (by decide) inlX12 (wsl_7 _ (List.mem_of_getElem? (i := 8) rfl)) rfl dX12_table_85 rfl ?_
    refine r_bipush dX12_table_88 (by decide) (by decide) ?_
    refine r_iload dX12_table_90 6 rfl (Or.inl rfl) ?_
    refine r_iadd dX12_table_92 ?_
    obtain ⟨v93, hg93, hr⟩ := bnd hr
    refine r_iald dX12_table_93 hg93 ?_
    refine r_iload_n dX12_table_94 rfl 1 rfl (Or.inl rfl) ?_
    refine r_icmp_ne dX12_table_95 (tgt := 105) (by decide) (fun hc => ?_) (fun hc => ?_)
    · have hr := ifn hr hc
      refine r_iconst dX12_table_105 (by decide) ?_
      refine r_sub [0, 1, 2, 3, 5, 6] (lv' := [(0, (22, a0)), (1, (0, a1)), (2, (0, a2)), (3, (0, l3)), (5, (0, l5)), (6, (0, l6))]) rfl ?_
      exact oX12_table_b106 (K := K) (fun r z => k0 r z) (fun _ _ _ z => k1 _ _ _ z) hr hk
    · have hr := ifp hr hc
      refine r_iconst dX12_table_98 (by decide) ?_
      refine r_iload dX12_table_99 6 rfl (Or.inl rfl) ?_
      refine r_ishl dX12_table_101 ?_
      refine r_goto dX12_table_102 (tgt := 106) (by decide) ?_
      refine r_sub [0, 1, 2, 3, 5, 6] (lv' := [(0, (22, a0)), (1, (0, a1)), (2, (0, a2)), (3, (0, l3)), (5, (0, l5)), (6, (0, l6))]) rfl ?_
      exact oX12_table_b106 (K := K) (fun r z => k0 r z) (fun _ _ _ z => k1 _ _ _ z) hr hk
set_option maxRecDepth 100000 in
set_option maxHeartbeats 4000000 in
theorem oX12_table_s26 {a0 a1 a2 l4 l5 l3 l6 : Int} {K : (Int × Int) ⊕ (Int × hH) → Prop} (k0 : ∀ r, K (.inr (r)) → x = (some (0, r.1), r.2)) (k1 : ∀ (l3 : Int) (l6 : Int), K (.inl (l3, l6)) → Wq p l e R s m args below meth c D G A H0 true n0 M_X12_table x 0 0 26 [(0, (22, a0)), (1, (0, a1)), (2, (0, a2)), (3, (0, l3)), (4, (2, l4)), (5, (2, l5)), (6, (0, l6))] [] h) {r : (Int × Int) ⊕ (Int × hH)} (hr : fX12_table_s26 h a0 a1 a2 l4 l5 (l3, l6) = some r) (hk : K r) : Wq p l e R s m args below meth c D G A H0 true n0 M_X12_table x 0 0 26 [(0, (22, a0)), (1, (0, a1)), (2, (0, a2)), (3, (0, l3)), (4, (2, l4)), (5, (2, l5)), (6, (0, l6))] [] h := by
  unfold fX12_table_s26 at hr
  refine r_iload dX12_table_26 6 rfl (Or.inl rfl) ?_
  refine r_aload_n dX12_table_28 rfl 0 rfl (nl rfl) ?_
  refine r_get 12 6 (o := a0) (w := (50, h a0 6)) (T := TX12) (ref := "FollowingRefsModel") rfl (by decide) rfl (by decide) inlX12 (wsl_7 _ (List.mem_of_getElem? (i := 8) rfl)) rfl dX12_table_29 rfl ?_
  refine r_iconst dX12_table_32 (by decide) ?_
  obtain ⟨v33, hg33, hr⟩ := bnd hr
  refine r_iald dX12_table_33 hg33 ?_
  refine r_icmp_ge dX12_table_34 (tgt := 68) (by decide) (fun hc => ?_) (fun hc => ?_)
  · have hr := ifn hr hc
    refine r_iconst dX12_table_68 (by decide) ?_
    refine r_istore dX12_table_69 (Or.inl rfl) (by decide) (lv' := [(6, (0, 0)), (0, (22, a0)), (1, (0, a1)), (2, (0, a2)), (3, (0, l3)), (4, (2, l4)), (5, (2, l5))]) rfl ?_
    refine r_lcast 5 (v := (2, l4)) (w := (0, l4)) rfl zc hTz (lv' := [(6, (0, 0)), (0, (22, a0)), (1, (0, a1)), (2, (0, a2)), (3, (0, l3)), (4, (0, l4)), (5, (2, l5))]) rfl ?_
    refine r_lcast 6 (v := (2, l5)) (w := (0, l5)) rfl zc hTz (lv' := [(6, (0, 0)), (0, (22, a0)), (1, (0, a1)), (2, (0, a2)), (3, (0, l3)), (4, (0, l4)), (5, (0, l5))]) rfl ?_
    refine r_sub [1, 2, 3, 4, 5, 6, 0] (lv' := [(0, (22, a0)), (1, (0, a1)), (2, (0, a2)), (3, (0, l3)), (4, (0, l4)), (5, (0, l5)), (6, (0, 0))]) rfl ?_
    obtain ⟨r9, hr9, rfl⟩ := mpp hr
    exact lp_ok (w := fun (q : Int × Int × Int) => Wq p l e R s m args below meth c D G A H0 true n0 M_X12_table x 0 0 71 [(0, (22, a0)), (1, (0, a1)), (2, (0, a2)), (3, (0, l3)), (4, (0, q.1)), (5, (0, q.2.1)), (6, (0, q.2.2))] [] (h)) (K := fun z9 => K (.inr (z9))) (fun ⟨q0, q1, q2⟩ r h1 h2 => oX12_table_s71 (K := Sum.elim (fun (q : Int × Int × Int) => Wq p l e R s m args below meth c D G A H0 true n0 M_X12_table x 0 0 71 [(0, (22, a0)), (1, (0, a1)), (2, (0, a2)), (3, (0, l3)), (4, (0, q.1)), (5, (0, q.2.1)), (6, (0, q.2.2))] [] (h)) (fun z9 => K (.inr (z9)))) (fun r z => k0 r z) (fun _ _ _ z => z) h1 h2) hr9 hk
  · have hr := ifp hr hc
    refine r_iload_n dX12_table_37 rfl 3 rfl (Or.inl rfl) ?_
    refine r_aload_n dX12_table_38 rfl 0 rfl (nl rfl) ?_
    refine r_get 12 6 (o := a0) (w := (50, h a0 6)) (T := TX12) (ref := "FollowingRefsModel") rfl (by decide) rfl (by decide) inlX12 (wsl_7 _ (List.mem_of_getElem? (i := 8) rfl)) rfl dX12_table_39 rfl ?_
    refine r_bipush dX12_table_42 (by decide) (by decide) ?_
    refine r_iload dX12_table_44 6 rfl (Or.inl rfl) ?_
    refine r_iadd dX12_table_46 ?_
    obtain ⟨v47, hg47, hr⟩ := bnd hr
    refine r_iald dX12_table_47 hg47 ?_
    refine r_iload_n dX12_table_48 rfl 1 rfl (Or.inl rfl) ?_
    refine r_icmp_ne dX12_table_49 (tgt := 59) (by decide) (fun hc => ?_) (fun hc => ?_)
    · have hr := ifn hr hc
      refine r_iconst dX12_table_59 (by decide) ?_
      refine r_sub [0, 1, 2, 4, 5, 6] (lv' := [(0, (22, a0)), (1, (0, a1)), (2, (0, a2)), (4, (2, l4)), (5, (2, l5)), (6, (0, l6))]) rfl ?_
      exact oX12_table_b60 (K := K) (fun r z => k0 r z) (fun _ _ z => k1 _ _ z) hr hk
    · have hr := ifp hr hc
      refine r_iconst dX12_table_52 (by decide) ?_
      refine r_iload dX12_table_53 6 rfl (Or.inl rfl) ?_
      refine r_ishl dX12_table_55 ?_
      refine r_goto dX12_table_56 (tgt := 60) (by decide) ?_
      refine r_sub [0, 1, 2, 4, 5, 6] (lv' := [(0, (22, a0)), (1, (0, a1)), (2, (0, a2)), (4, (2, l4)), (5, (2, l5)), (6, (0, l6))]) rfl ?_
      exact oX12_table_b60 (K := K) (fun r z => k0 r z) (fun _ _ z => k1 _ _ z) hr hk
set_option maxRecDepth 100000 in
set_option maxHeartbeats 4000000 in
theorem oX12_table_b0 {a0 a1 a2 : Int} {K : Int × hH → Prop} (k0 : ∀ r, K (r) → x = (some (0, r.1), r.2)) {r : Int × hH} (hr : fX12_table h a0 a1 a2 = some r) (hk : K r) : Wq p l e R s m args below meth c D G A H0 true n0 M_X12_table x 0 0 0 [(0, (22, a0)), (1, (0, a1)), (2, (0, a2))] [] h := by
  unfold fX12_table at hr
  refine r_aload_n dX12_table_0 rfl 0 rfl (nl rfl) ?_
  refine r_iconst dX12_table_1 (by decide) ?_
  obtain ⟨h2, hg2, hr⟩ := bnd hr
  refine r_put' 12 0 (t := 0) (ref := "FollowingRefsModel") hg2 rfl tyX12 tyX12_ok nmX12 rfl (by decide) rfl (by decide) inlX12 (wsl_10 _ (List.mem_of_getElem? (i := 11) rfl)) rfl rfl (by decide +kernel) (by decide) rfl (Or.inl ⟨rfl, rfl⟩) dX12_table_2 ?_
  refine r_aload_n dX12_table_5 rfl 0 rfl (nl rfl) ?_
  refine r_iload_n dX12_table_6 rfl 1 rfl (Or.inl rfl) ?_
  obtain ⟨r7, hg7, hr⟩ := bnd hr
  refine k_V (ci := 12) (o := a0) (T := TX12) (as := [(0, a1)]) (rest := []) (X := (some (2, r7), h2)) (oX12_isTable hg7) gX12_isTable rfl (by decide) rfl (wsl_53 _ (List.mem_of_getElem? (i := 7) rfl)) rfl dX12_table_7 rfl ?_
  refine r_scast 0 (v := (2, r7)) (w := (0, r7)) rfl zc hTz (st' := [(0, r7)]) rfl ?_
  refine r_if_ne dX12_table_10 (tgt := 15) (by decide) (fun hc => ?_) (fun hc => ?_)
  · have hr := ifn hr hc
    refine r_iconst dX12_table_15 (by decide) ?_
    refine r_istore_n dX12_table_16 rfl (Or.inl rfl) (by decide) (lv' := [(3, (0, 0)), (0, (22, a0)), (1, (0, a1)), (2, (0, a2))]) rfl ?_
    refine r_iconst dX12_table_17 (by decide) ?_
    refine r_istore dX12_table_18 (Or.inl rfl) (by decide) (lv' := [(4, (0, 0)), (3, (0, 0)), (0, (22, a0)), (1, (0, a1)), (2, (0, a2))]) rfl ?_
    refine r_iconst dX12_table_20 (by decide) ?_
    refine r_istore dX12_table_21 (Or.inl rfl) (by decide) (lv' := [(5, (0, 0)), (4, (0, 0)), (3, (0, 0)), (0, (22, a0)), (1, (0, a1)), (2, (0, a2))]) rfl ?_
    refine r_iconst dX12_table_23 (by decide) ?_
    refine r_istore dX12_table_24 (Or.inl rfl) (by decide) (lv' := [(6, (0, 0)), (5, (0, 0)), (4, (0, 0)), (3, (0, 0)), (0, (22, a0)), (1, (0, a1)), (2, (0, a2))]) rfl ?_
    refine r_lcast 2 (v := (0, 0)) (w := (2, 0)) rfl cz (fun _ => Or.inl rfl) (lv' := [(6, (0, 0)), (5, (0, 0)), (4, (2, 0)), (3, (0, 0)), (0, (22, a0)), (1, (0, a1)), (2, (0, a2))]) rfl ?_
    refine r_lcast 1 (v := (0, 0)) (w := (2, 0)) rfl cz (fun _ => Or.inl rfl) (lv' := [(6, (0, 0)), (5, (2, 0)), (4, (2, 0)), (3, (0, 0)), (0, (22, a0)), (1, (0, a1)), (2, (0, a2))]) rfl ?_
    refine r_sub [4, 5, 6, 3, 2, 1, 0] (lv' := [(0, (22, a0)), (1, (0, a1)), (2, (0, a2)), (3, (0, 0)), (4, (2, 0)), (5, (2, 0)), (6, (0, 0))]) rfl ?_
    exact lp_ok (w := fun (q : Int × Int) => Wq p l e R s m args below meth c D G A H0 true n0 M_X12_table x 0 0 26 [(0, (22, a0)), (1, (0, a1)), (2, (0, a2)), (3, (0, q.1)), (4, (2, 0)), (5, (2, 0)), (6, (0, q.2))] [] (h2)) (K := K) (fun ⟨q0, q1⟩ r z1 z2 => oX12_table_s26 (K := Sum.elim (fun (q : Int × Int) => Wq p l e R s m args below meth c D G A H0 true n0 M_X12_table x 0 0 26 [(0, (22, a0)), (1, (0, a1)), (2, (0, a2)), (3, (0, q.1)), (4, (2, 0)), (5, (2, 0)), (6, (0, q.2))] [] (h2)) (K)) (fun r z => k0 r z) (fun _ _ z => z) z1 z2) hr hk
  · have hr := ifp hr hc
    refine r_iconst dX12_table_13 (by decide) ?_
    obtain rfl := Option.some.inj hr
    exact r_ret dX12_table_14 rfl (Or.inl ⟨rfl, rfl⟩) (k0 _ hk) ⟨rfl, rfl⟩
end M_X12_table
theorem oX12_table {l : Launch} {D : va_G} {G : gG} {h : hH} {a0 a1 a2 : Int} {r : Int × hH} (hr : fX12_table h a0 a1 a2 = some r) : Ctr l D G true yX12_table M_X12_table [(22, a0), (0, a1), (0, a2)] h (some (0, r.1), r.2) :=
  Ctr_of (by decide) rfl (fun z => by cases z) (nl rfl) (fun {p e R s m args below meth c A H0} => by
    exact oX12_table_b0 (K := fun z9 => z9 = r) (fun r9 z => by rw [z]) hr rfl)
/-! X12_col -/
theorem dX12_col_0 : decode cX12_col 0 = .ok (.aload_n 0, 1) := by decide +kernel
theorem dX12_col_1 : decode cX12_col 1 = .ok (.aload_n 0, 1) := by decide +kernel
theorem dX12_col_2 : decode cX12_col 2 = .ok (.iload_n 1, 1) := by decide +kernel
theorem dX12_col_3 : decode cX12_col 3 = .ok (.iload_n 2, 1) := by decide +kernel
theorem dX12_col_4 : decode cX12_col 4 = .ok (.invokevirtual 492, 3) := by decide +kernel
theorem dX12_col_7 : decode cX12_col 7 = .ok (.ifCond .eq 12, 3) := by decide +kernel
theorem dX12_col_10 : decode cX12_col 10 = .ok (.iload_n 3, 1) := by decide +kernel
theorem dX12_col_11 : decode cX12_col 11 = .ok (.iconst 0, 1) := by decide +kernel
theorem dX12_col_12 : decode cX12_col 12 = .ok (.iconst 3, 1) := by decide +kernel
theorem dX12_col_13 : decode cX12_col 13 = .ok (.invokestatic 229, 3) := by decide +kernel
theorem dX12_col_16 : decode cX12_col 16 = .ok (.ifCond .ne 7, 3) := by decide +kernel
theorem dX12_col_19 : decode cX12_col 19 = .ok (.iconst 1, 1) := by decide +kernel
theorem dX12_col_20 : decode cX12_col 20 = .ok (.goto 4, 3) := by decide +kernel
theorem dX12_col_23 : decode cX12_col 23 = .ok (.iconst 0, 1) := by decide +kernel
theorem dX12_col_24 : decode cX12_col 24 = .ok (.invokevirtual 495, 3) := by decide +kernel
theorem dX12_col_27 : decode cX12_col 27 = .ok (.ifCond .eq 5, 3) := by decide +kernel
theorem dX12_col_30 : decode cX12_col 30 = .ok (.iconst 0, 1) := by decide +kernel
theorem dX12_col_31 : decode cX12_col 31 = .ok (.ireturn, 1) := by decide +kernel
theorem dX12_col_32 : decode cX12_col 32 = .ok (.iconst 0, 1) := by decide +kernel
theorem dX12_col_33 : decode cX12_col 33 = .ok (.istore 4, 2) := by decide +kernel
theorem dX12_col_35 : decode cX12_col 35 = .ok (.iconst 0, 1) := by decide +kernel
theorem dX12_col_36 : decode cX12_col 36 = .ok (.istore 5, 2) := by decide +kernel
theorem dX12_col_38 : decode cX12_col 38 = .ok (.iconst 0, 1) := by decide +kernel
theorem dX12_col_39 : decode cX12_col 39 = .ok (.istore 6, 2) := by decide +kernel
theorem dX12_col_41 : decode cX12_col 41 = .ok (.iload 6, 2) := by decide +kernel
theorem dX12_col_43 : decode cX12_col 43 = .ok (.aload_n 0, 1) := by decide +kernel
theorem dX12_col_44 : decode cX12_col 44 = .ok (.getfield 33, 3) := by decide +kernel
theorem dX12_col_47 : decode cX12_col 47 = .ok (.iconst 1, 1) := by decide +kernel
theorem dX12_col_48 : decode cX12_col 48 = .ok (.iaload, 1) := by decide +kernel
theorem dX12_col_49 : decode cX12_col 49 = .ok (.if_icmp .ge 64, 3) := by decide +kernel
theorem dX12_col_52 : decode cX12_col 52 = .ok (.iload 4, 2) := by decide +kernel
theorem dX12_col_54 : decode cX12_col 54 = .ok (.aload_n 0, 1) := by decide +kernel
theorem dX12_col_55 : decode cX12_col 55 = .ok (.getfield 33, 3) := by decide +kernel
theorem dX12_col_58 : decode cX12_col 58 = .ok (.bipush 40, 2) := by decide +kernel
theorem dX12_col_60 : decode cX12_col 60 = .ok (.iload 6, 2) := by decide +kernel
theorem dX12_col_62 : decode cX12_col 62 = .ok (.iadd, 1) := by decide +kernel
theorem dX12_col_63 : decode cX12_col 63 = .ok (.iaload, 1) := by decide +kernel
theorem dX12_col_64 : decode cX12_col 64 = .ok (.iload_n 1, 1) := by decide +kernel
theorem dX12_col_65 : decode cX12_col 65 = .ok (.if_icmp .ne 38, 3) := by decide +kernel
theorem dX12_col_68 : decode cX12_col 68 = .ok (.aload_n 0, 1) := by decide +kernel
theorem dX12_col_69 : decode cX12_col 69 = .ok (.getfield 33, 3) := by decide +kernel
theorem dX12_col_72 : decode cX12_col 72 = .ok (.bipush 46, 2) := by decide +kernel
theorem dX12_col_74 : decode cX12_col 74 = .ok (.iload 6, 2) := by decide +kernel
theorem dX12_col_76 : decode cX12_col 76 = .ok (.iadd, 1) := by decide +kernel
theorem dX12_col_77 : decode cX12_col 77 = .ok (.iaload, 1) := by decide +kernel
theorem dX12_col_78 : decode cX12_col 78 = .ok (.iload_n 2, 1) := by decide +kernel
theorem dX12_col_79 : decode cX12_col 79 = .ok (.if_icmp .eq 17, 3) := by decide +kernel
theorem dX12_col_82 : decode cX12_col 82 = .ok (.aload_n 0, 1) := by decide +kernel
theorem dX12_col_83 : decode cX12_col 83 = .ok (.getfield 33, 3) := by decide +kernel
theorem dX12_col_86 : decode cX12_col 86 = .ok (.bipush 52, 2) := by decide +kernel
theorem dX12_col_88 : decode cX12_col 88 = .ok (.iload 6, 2) := by decide +kernel
theorem dX12_col_90 : decode cX12_col 90 = .ok (.iadd, 1) := by decide +kernel
theorem dX12_col_91 : decode cX12_col 91 = .ok (.iaload, 1) := by decide +kernel
theorem dX12_col_92 : decode cX12_col 92 = .ok (.iload_n 2, 1) := by decide +kernel
theorem dX12_col_93 : decode cX12_col 93 = .ok (.if_icmp .ne 10, 3) := by decide +kernel
theorem dX12_col_96 : decode cX12_col 96 = .ok (.iconst 1, 1) := by decide +kernel
theorem dX12_col_97 : decode cX12_col 97 = .ok (.iload 6, 2) := by decide +kernel
theorem dX12_col_99 : decode cX12_col 99 = .ok (.ishl, 1) := by decide +kernel
theorem dX12_col_100 : decode cX12_col 100 = .ok (.goto 4, 3) := by decide +kernel
theorem dX12_col_103 : decode cX12_col 103 = .ok (.iconst 0, 1) := by decide +kernel
theorem dX12_col_104 : decode cX12_col 104 = .ok (.ior, 1) := by decide +kernel
theorem dX12_col_105 : decode cX12_col 105 = .ok (.istore 4, 2) := by decide +kernel
theorem dX12_col_107 : decode cX12_col 107 = .ok (.iinc 6 1, 3) := by decide +kernel
theorem dX12_col_110 : decode cX12_col 110 = .ok (.goto (-69), 3) := by decide +kernel
theorem dX12_col_113 : decode cX12_col 113 = .ok (.iconst 0, 1) := by decide +kernel
theorem dX12_col_114 : decode cX12_col 114 = .ok (.istore 6, 2) := by decide +kernel
theorem dX12_col_116 : decode cX12_col 116 = .ok (.iload 6, 2) := by decide +kernel
theorem dX12_col_118 : decode cX12_col 118 = .ok (.aload_n 0, 1) := by decide +kernel
theorem dX12_col_119 : decode cX12_col 119 = .ok (.getfield 33, 3) := by decide +kernel
theorem dX12_col_122 : decode cX12_col 122 = .ok (.iconst 2, 1) := by decide +kernel
theorem dX12_col_123 : decode cX12_col 123 = .ok (.iaload, 1) := by decide +kernel
theorem dX12_col_124 : decode cX12_col 124 = .ok (.if_icmp .ge 64, 3) := by decide +kernel
theorem dX12_col_127 : decode cX12_col 127 = .ok (.iload 5, 2) := by decide +kernel
theorem dX12_col_129 : decode cX12_col 129 = .ok (.aload_n 0, 1) := by decide +kernel
theorem dX12_col_130 : decode cX12_col 130 = .ok (.getfield 33, 3) := by decide +kernel
theorem dX12_col_133 : decode cX12_col 133 = .ok (.bipush 58, 2) := by decide +kernel
theorem dX12_col_135 : decode cX12_col 135 = .ok (.iload 6, 2) := by decide +kernel
theorem dX12_col_137 : decode cX12_col 137 = .ok (.iadd, 1) := by decide +kernel
theorem dX12_col_138 : decode cX12_col 138 = .ok (.iaload, 1) := by decide +kernel
theorem dX12_col_139 : decode cX12_col 139 = .ok (.iload_n 1, 1) := by decide +kernel
theorem dX12_col_140 : decode cX12_col 140 = .ok (.if_icmp .ne 38, 3) := by decide +kernel
theorem dX12_col_143 : decode cX12_col 143 = .ok (.aload_n 0, 1) := by decide +kernel
theorem dX12_col_144 : decode cX12_col 144 = .ok (.getfield 33, 3) := by decide +kernel
theorem dX12_col_147 : decode cX12_col 147 = .ok (.bipush 64, 2) := by decide +kernel
theorem dX12_col_149 : decode cX12_col 149 = .ok (.iload 6, 2) := by decide +kernel
theorem dX12_col_151 : decode cX12_col 151 = .ok (.iadd, 1) := by decide +kernel
theorem dX12_col_152 : decode cX12_col 152 = .ok (.iaload, 1) := by decide +kernel
theorem dX12_col_153 : decode cX12_col 153 = .ok (.iload_n 2, 1) := by decide +kernel
theorem dX12_col_154 : decode cX12_col 154 = .ok (.if_icmp .eq 17, 3) := by decide +kernel
theorem dX12_col_157 : decode cX12_col 157 = .ok (.aload_n 0, 1) := by decide +kernel
theorem dX12_col_158 : decode cX12_col 158 = .ok (.getfield 33, 3) := by decide +kernel
theorem dX12_col_161 : decode cX12_col 161 = .ok (.bipush 70, 2) := by decide +kernel
theorem dX12_col_163 : decode cX12_col 163 = .ok (.iload 6, 2) := by decide +kernel
theorem dX12_col_165 : decode cX12_col 165 = .ok (.iadd, 1) := by decide +kernel
theorem dX12_col_166 : decode cX12_col 166 = .ok (.iaload, 1) := by decide +kernel
theorem dX12_col_167 : decode cX12_col 167 = .ok (.iload_n 2, 1) := by decide +kernel
theorem dX12_col_168 : decode cX12_col 168 = .ok (.if_icmp .ne 10, 3) := by decide +kernel
theorem dX12_col_171 : decode cX12_col 171 = .ok (.iconst 1, 1) := by decide +kernel
theorem dX12_col_172 : decode cX12_col 172 = .ok (.iload 6, 2) := by decide +kernel
theorem dX12_col_174 : decode cX12_col 174 = .ok (.ishl, 1) := by decide +kernel
theorem dX12_col_175 : decode cX12_col 175 = .ok (.goto 4, 3) := by decide +kernel
theorem dX12_col_178 : decode cX12_col 178 = .ok (.iconst 0, 1) := by decide +kernel
theorem dX12_col_179 : decode cX12_col 179 = .ok (.ior, 1) := by decide +kernel
theorem dX12_col_180 : decode cX12_col 180 = .ok (.istore 5, 2) := by decide +kernel
theorem dX12_col_182 : decode cX12_col 182 = .ok (.iinc 6 1, 3) := by decide +kernel
theorem dX12_col_185 : decode cX12_col 185 = .ok (.goto (-69), 3) := by decide +kernel
theorem dX12_col_188 : decode cX12_col 188 = .ok (.iload_n 3, 1) := by decide +kernel
theorem dX12_col_189 : decode cX12_col 189 = .ok (.ifCond .ne 19, 3) := by decide +kernel
theorem dX12_col_192 : decode cX12_col 192 = .ok (.aload_n 0, 1) := by decide +kernel
theorem dX12_col_193 : decode cX12_col 193 = .ok (.getfield 33, 3) := by decide +kernel
theorem dX12_col_196 : decode cX12_col 196 = .ok (.bipush 8, 2) := by decide +kernel
theorem dX12_col_198 : decode cX12_col 198 = .ok (.iconst 4, 1) := by decide +kernel
theorem dX12_col_199 : decode cX12_col 199 = .ok (.iload_n 1, 1) := by decide +kernel
theorem dX12_col_200 : decode cX12_col 200 = .ok (.imul, 1) := by decide +kernel
theorem dX12_col_201 : decode cX12_col 201 = .ok (.iadd, 1) := by decide +kernel
theorem dX12_col_202 : decode cX12_col 202 = .ok (.iload_n 2, 1) := by decide +kernel
theorem dX12_col_203 : decode cX12_col 203 = .ok (.iadd, 1) := by decide +kernel
theorem dX12_col_204 : decode cX12_col 204 = .ok (.iaload, 1) := by decide +kernel
theorem dX12_col_205 : decode cX12_col 205 = .ok (.goto 37, 3) := by decide +kernel
theorem dX12_col_208 : decode cX12_col 208 = .ok (.iload_n 3, 1) := by decide +kernel
theorem dX12_col_209 : decode cX12_col 209 = .ok (.iconst 1, 1) := by decide +kernel
theorem dX12_col_210 : decode cX12_col 210 = .ok (.if_icmp .ne 20, 3) := by decide +kernel
theorem dX12_col_213 : decode cX12_col 213 = .ok (.aload_n 0, 1) := by decide +kernel
theorem dX12_col_214 : decode cX12_col 214 = .ok (.iload_n 1, 1) := by decide +kernel
theorem dX12_col_215 : decode cX12_col 215 = .ok (.iload_n 2, 1) := by decide +kernel
theorem dX12_col_216 : decode cX12_col 216 = .ok (.invokevirtual 339, 3) := by decide +kernel
theorem dX12_col_219 : decode cX12_col 219 = .ok (.ifCond .eq 7, 3) := by decide +kernel
theorem dX12_col_222 : decode cX12_col 222 = .ok (.iconst 1, 1) := by decide +kernel
theorem dX12_col_223 : decode cX12_col 223 = .ok (.goto 19, 3) := by decide +kernel
theorem dX12_col_226 : decode cX12_col 226 = .ok (.iconst 0, 1) := by decide +kernel
theorem dX12_col_227 : decode cX12_col 227 = .ok (.goto 15, 3) := by decide +kernel
theorem dX12_col_230 : decode cX12_col 230 = .ok (.iload_n 3, 1) := by decide +kernel
theorem dX12_col_231 : decode cX12_col 231 = .ok (.iconst 2, 1) := by decide +kernel
theorem dX12_col_232 : decode cX12_col 232 = .ok (.if_icmp .ne 8, 3) := by decide +kernel
theorem dX12_col_235 : decode cX12_col 235 = .ok (.iload 4, 2) := by decide +kernel
theorem dX12_col_237 : decode cX12_col 237 = .ok (.goto 5, 3) := by decide +kernel
theorem dX12_col_240 : decode cX12_col 240 = .ok (.iload 5, 2) := by decide +kernel
theorem dX12_col_242 : decode cX12_col 242 = .ok (.ireturn, 1) := by decide +kernel
abbrev M_X12_col : mM := (cX12_col, 7, RX12, some .int, false, 3, 65, 0, 0)
theorem gX12_col : cI yX12_col M_X12_col 3 := ⟨(wsl_58 _ (List.mem_of_getElem? (i := 22) rfl)), (wsl_58 _ (List.mem_of_getElem? (i := 23) rfl)), (wsl_1 _ (List.mem_of_getElem? (i := 5) rfl)), (wsl_59 _ (List.mem_of_getElem? (i := 0) rfl)), by decide +kernel⟩
noncomputable def fX12_col_b104 (h : hH) (a0 a1 a2 a3 l5 l6 s0 s1 : Int) : Option ((Int × Int) ⊕ (Int × hH)) :=
  some (.inl (iorD s1 s0, w32 (l6 + 1)))
noncomputable def fX12_col_b96 (h : hH) (a0 a1 a2 a3 l5 l6 s0 : Int) : Option ((Int × Int) ⊕ (Int × hH)) :=
  fX12_col_b104 h a0 a1 a2 a3 l5 l6 (ishD 1 l6) s0
noncomputable def fX12_col_b103 (h : hH) (a0 a1 a2 a3 l5 l6 s0 : Int) : Option ((Int × Int) ⊕ (Int × hH)) :=
  fX12_col_b104 h a0 a1 a2 a3 l5 l6 0 s0
noncomputable def fX12_col_b179 (h : hH) (a0 a1 a2 a3 l4 l6 s0 s1 : Int) : Option ((Int × Int) ⊕ (Int × hH)) :=
  some (.inl (iorD s1 s0, w32 (l6 + 1)))
noncomputable def fX12_col_b171 (h : hH) (a0 a1 a2 a3 l4 l6 s0 : Int) : Option ((Int × Int) ⊕ (Int × hH)) :=
  fX12_col_b179 h a0 a1 a2 a3 l4 l6 (ishD 1 l6) s0
noncomputable def fX12_col_b178 (h : hH) (a0 a1 a2 a3 l4 l6 s0 : Int) : Option ((Int × Int) ⊕ (Int × hH)) :=
  fX12_col_b179 h a0 a1 a2 a3 l4 l6 0 s0
noncomputable def fX12_col_s116 (h : hH) (a0 a1 a2 a3 l4 : Int) : Int × Int → Option ((Int × Int) ⊕ (Int × hH)) := fun (l5, l6) =>
  (aget h (h a0 6) 2).bind fun v123 =>
  if l6 < v123 then
    (aget h (h a0 6) (w32 (58 + l6))).bind fun v138 =>
    if v138 = a1 then
      (aget h (h a0 6) (w32 (64 + l6))).bind fun v152 =>
      if v152 = a2 then
        fX12_col_b171 h a0 a1 a2 a3 l4 l6 l5
      else
        (aget h (h a0 6) (w32 (70 + l6))).bind fun v166 =>
        if v166 = a2 then
          fX12_col_b171 h a0 a1 a2 a3 l4 l6 l5
        else
          fX12_col_b178 h a0 a1 a2 a3 l4 l6 l5
    else
      fX12_col_b178 h a0 a1 a2 a3 l4 l6 l5
  else
    if a3 = 0 then
      (aget h (h a0 6) (w32 ((w32 (8 + (w32 (4 * a1)))) + a2))).bind fun v204 =>
      some (.inr ((v204, h)))
    else
      if a3 = 1 then
        (fX12_isNeeded h a0 a1 a2).bind fun r216 =>
        if r216 = 0 then
          some (.inr ((0, h)))
        else
          some (.inr ((1, h)))
      else
        if a3 = 2 then
          some (.inr ((l4, h)))
        else
          some (.inr ((l5, h)))
noncomputable def fX12_col_s41 (h : hH) (a0 a1 a2 a3 l5 : Int) : Int × Int → Option ((Int × Int) ⊕ (Int × hH)) := fun (l4, l6) =>
  (aget h (h a0 6) 1).bind fun v48 =>
  if l6 < v48 then
    (aget h (h a0 6) (w32 (40 + l6))).bind fun v63 =>
    if v63 = a1 then
      (aget h (h a0 6) (w32 (46 + l6))).bind fun v77 =>
      if v77 = a2 then
        fX12_col_b96 h a0 a1 a2 a3 l5 l6 l4
      else
        (aget h (h a0 6) (w32 (52 + l6))).bind fun v91 =>
        if v91 = a2 then
          fX12_col_b96 h a0 a1 a2 a3 l5 l6 l4
        else
          fX12_col_b103 h a0 a1 a2 a3 l5 l6 l4
    else
      fX12_col_b103 h a0 a1 a2 a3 l5 l6 l4
  else
    (lpO (fX12_col_s116 h a0 a1 a2 a3 l4) (l5, 0)).map (fun z9 => .inr (z9))
noncomputable def fX12_col_b24 (h : hH) (a0 a1 a2 a3 s0 s1 : Int) : Option (Int × hH) :=
  (fX12_throwsIf h s1 s0).bind fun q24 =>
  if q24.1 = 0 then
    lpO (fX12_col_s41 q24.2 a0 a1 a2 a3 0) (0, 0)
  else
    some (0, q24.2)
noncomputable def fX12_col_b19 (h : hH) (a0 a1 a2 a3 s0 : Int) : Option (Int × hH) :=
  fX12_col_b24 h a0 a1 a2 a3 1 s0
noncomputable def fX12_col (h : hH) (a0 a1 a2 a3 : Int) : Option (Int × hH) :=
  (fX12_isCol h a0 a1 a2).bind fun r4 =>
  if r4 = 0 then
    fX12_col_b19 h a0 a1 a2 a3 a0
  else
    (fX12_isIn h a3 0 3).bind fun r13 =>
    if r13 = 0 then
      fX12_col_b19 h a0 a1 a2 a3 a0
    else
      fX12_col_b24 h a0 a1 a2 a3 0 a0
section M_X12_col
variable {p : Program} {l : Launch} {e : Env} {R : Room} {s : State} {m : MethodId} {args : Array Value} {below : List Frame} {meth : Method} {c : Code} {D : va_G} {G : gG} {A : Nat → Prop} {H0 : Heap} {n0 : Int} {x : Option vV × hH} {h : hH}
set_option maxRecDepth 100000 in
set_option maxHeartbeats 4000000 in
theorem oX12_col_b104 {a0 a1 a2 a3 l5 l6 s0 s1 : Int} {K : (Int × Int) ⊕ (Int × hH) → Prop} (k0 : ∀ r, K (.inr (r)) → x = (some (0, r.1), r.2)) (k1 : ∀ (l4 : Int) (l6 : Int), K (.inl (l4, l6)) → Wq p l e R s m args below meth c D G A H0 true n0 M_X12_col x 0 0 41 [(0, (22, a0)), (1, (0, a1)), (2, (0, a2)), (3, (0, a3)), (4, (0, l4)), (5, (2, l5)), (6, (0, l6))] [] h) {r : (Int × Int) ⊕ (Int × hH)} (hr : fX12_col_b104 h a0 a1 a2 a3 l5 l6 s0 s1 = some r) (hk : K r) : Wq p l e R s m args below meth c D G A H0 true n0 M_X12_col x 0 0 104 [(0, (22, a0)), (1, (0, a1)), (2, (0, a2)), (3, (0, a3)), (5, (2, l5)), (6, (0, l6))] [(0, s0), (0, s1)] h := by
  unfold fX12_col_b104 at hr
  refine r_ior dX12_col_104 ?_
  refine r_istore dX12_col_105 (Or.inl rfl) (by decide) (lv' := [(4, (0, iorD s1 s0)), (0, (22, a0)), (1, (0, a1)), (2, (0, a2)), (3, (0, a3)), (5, (2, l5)), (6, (0, l6))]) rfl ?_
  refine r_iinc (k := 6) (v := l6) dX12_col_107 rfl (by decide) (lv' := [(6, (0, w32 (l6 + 1))), (4, (0, iorD s1 s0)), (0, (22, a0)), (1, (0, a1)), (2, (0, a2)), (3, (0, a3)), (5, (2, l5))]) rfl ?_
  refine r_goto dX12_col_110 (tgt := 41) (by decide) ?_
  refine r_sub [2, 3, 4, 5, 1, 6, 0] (lv' := [(0, (22, a0)), (1, (0, a1)), (2, (0, a2)), (3, (0, a3)), (4, (0, iorD s1 s0)), (5, (2, l5)), (6, (0, w32 (l6 + 1)))]) rfl ?_
  obtain rfl := Option.some.inj hr
  exact k1 _ _ hk
set_option maxRecDepth 100000 in
set_option maxHeartbeats 4000000 in
theorem oX12_col_b96 {a0 a1 a2 a3 l5 l6 s0 : Int} {K : (Int × Int) ⊕ (Int × hH) → Prop} (k0 : ∀ r, K (.inr (r)) → x = (some (0, r.1), r.2)) (k1 : ∀ (l4 : Int) (l6 : Int), K (.inl (l4, l6)) → Wq p l e R s m args below meth c D G A H0 true n0 M_X12_col x 0 0 41 [(0, (22, a0)), (1, (0, a1)), (2, (0, a2)), (3, (0, a3)), (4, (0, l4)), (5, (2, l5)), (6, (0, l6))] [] h) {r : (Int × Int) ⊕ (Int × hH)} (hr : fX12_col_b96 h a0 a1 a2 a3 l5 l6 s0 = some r) (hk : K r) : Wq p l e R s m args below meth c D G A H0 true n0 M_X12_col x 0 0 96 [(0, (22, a0)), (1, (0, a1)), (2, (0, a2)), (3, (0, a3)), (5, (2, l5)), (6, (0, l6))] [(0, s0)] h := by
  unfold fX12_col_b96 at hr
  refine r_iconst dX12_col_96 (by decide) ?_
  refine r_iload dX12_col_97 5 rfl (Or.inl rfl) ?_
  refine r_ishl dX12_col_99 ?_
  refine r_goto dX12_col_100 (tgt := 104) (by decide) ?_
  exact oX12_col_b104 (K := K) (fun r z => k0 r z) (fun _ _ z => k1 _ _ z) hr hk
set_option maxRecDepth 100000 in
set_option maxHeartbeats 4000000 in
theorem oX12_col_b103 {a0 a1 a2 a3 l5 l6 s0 : Int} {K : (Int × Int) ⊕ (Int × hH) → Prop} (k0 : ∀ r, K (.inr (r)) → x = (some (0, r.1), r.2)) (k1 : ∀ (l4 : Int) (l6 : Int), K (.inl (l4, l6)) → Wq p l e R s m args below meth c D G A H0 true n0 M_X12_col x 0 0 41 [(0, (22, a0)), (1, (0, a1)), (2, (0, a2)), (3, (0, a3)), (4, (0, l4)), (5, (2, l5)), (6, (0, l6))] [] h) {r : (Int × Int) ⊕ (Int × hH)} (hr : fX12_col_b103 h a0 a1 a2 a3 l5 l6 s0 = some r) (hk : K r) : Wq p l e R s m args below meth c D G A H0 true n0 M_X12_col x 0 0 103 [(0, (22, a0)), (1, (0, a1)), (2, (0, a2)), (3, (0, a3)), (5, (2, l5)), (6, (0, l6))] [(0, s0)] h := by
  unfold fX12_col_b103 at hr
  refine r_iconst dX12_col_103 (by decide) ?_
  exact oX12_col_b104 (K := K) (fun r z => k0 r z) (fun _ _ z => k1 _ _ z) hr hk
set_option maxRecDepth 100000 in
set_option maxHeartbeats 4000000 in
theorem oX12_col_b179 {a0 a1 a2 a3 l4 l6 s0 s1 : Int} {K : (Int × Int) ⊕ (Int × hH) → Prop} (k0 : ∀ r, K (.inr (r)) → x = (some (0, r.1), r.2)) (k1 : ∀ (l5 : Int) (l6 : Int), K (.inl (l5, l6)) → Wq p l e R s m args below meth c D G A H0 true n0 M_X12_col x 0 0 116 [(0, (22, a0)), (1, (0, a1)), (2, (0, a2)), (3, (0, a3)), (4, (0, l4)), (5, (0, l5)), (6, (0, l6))] [] h) {r : (Int × Int) ⊕ (Int × hH)} (hr : fX12_col_b179 h a0 a1 a2 a3 l4 l6 s0 s1 = some r) (hk : K r) : Wq p l e R s m args below meth c D G A H0 true n0 M_X12_col x 0 0 179 [(0, (22, a0)), (1, (0, a1)), (2, (0, a2)), (3, (0, a3)), (4, (0, l4)), (6, (0, l6))] [(0, s0), (0, s1)] h := by
  unfold fX12_col_b179 at hr
  refine r_ior dX12_col_179 ?_
  refine r_istore dX12_col_180 (Or.inl rfl) (by decide) (lv' := [(5, (0, iorD s1 s0)), (0, (22, a0)), (1, (0, a1)), (2, (0, a2)), (3, (0, a3)), (4, (0, l4)), (6, (0, l6))]) rfl ?_
  refine r_iinc (k := 6) (v := l6) dX12_col_182 rfl (by decide) (lv' := [(6, (0, w32 (l6 + 1))), (5, (0, iorD s1 s0)), (0, (22, a0)), (1, (0, a1)), (2, (0, a2)), (3, (0, a3)), (4, (0, l4))]) rfl ?_
  refine r_goto dX12_col_185 (tgt := 116) (by decide) ?_
  refine r_sub [2, 3, 4, 5, 6, 1, 0] (lv' := [(0, (22, a0)), (1, (0, a1)), (2, (0, a2)), (3, (0, a3)), (4, (0, l4)), (5, (0, iorD s1 s0)), (6, (0, w32 (l6 + 1)))]) rfl ?_
  obtain rfl := Option.some.inj hr
  exact k1 _ _ hk
set_option maxRecDepth 100000 in
set_option maxHeartbeats 4000000 in
theorem oX12_col_b171 {a0 a1 a2 a3 l4 l6 s0 : Int} {K : (Int × Int) ⊕ (Int × hH) → Prop} (k0 : ∀ r, K (.inr (r)) → x = (some (0, r.1), r.2)) (k1 : ∀ (l5 : Int) (l6 : Int), K (.inl (l5, l6)) → Wq p l e R s m args below meth c D G A H0 true n0 M_X12_col x 0 0 116 [(0, (22, a0)), (1, (0, a1)), (2, (0, a2)), (3, (0, a3)), (4, (0, l4)), (5, (0, l5)), (6, (0, l6))] [] h) {r : (Int × Int) ⊕ (Int × hH)} (hr : fX12_col_b171 h a0 a1 a2 a3 l4 l6 s0 = some r) (hk : K r) : Wq p l e R s m args below meth c D G A H0 true n0 M_X12_col x 0 0 171 [(0, (22, a0)), (1, (0, a1)), (2, (0, a2)), (3, (0, a3)), (4, (0, l4)), (6, (0, l6))] [(0, s0)] h := by
  unfold fX12_col_b171 at hr
  refine r_iconst dX12_col_171 (by decide) ?_
  refine r_iload dX12_col_172 5 rfl (Or.inl rfl) ?_
  refine r_ishl dX12_col_174 ?_
  refine r_goto dX12_col_175 (tgt := 179) (by decide) ?_
  exact oX12_col_b179 (K := K) (fun r z => k0 r z) (fun _ _ z => k1 _ _ z) hr hk
set_option maxRecDepth 100000 in
set_option maxHeartbeats 4000000 in
theorem oX12_col_b178 {a0 a1 a2 a3 l4 l6 s0 : Int} {K : (Int × Int) ⊕ (Int × hH) → Prop} (k0 : ∀ r, K (.inr (r)) → x = (some (0, r.1), r.2)) (k1 : ∀ (l5 : Int) (l6 : Int), K (.inl (l5, l6)) → Wq p l e R s m args below meth c D G A H0 true n0 M_X12_col x 0 0 116 [(0, (22, a0)), (1, (0, a1)), (2, (0, a2)), (3, (0, a3)), (4, (0, l4)), (5, (0, l5)), (6, (0, l6))] [] h) {r : (Int × Int) ⊕ (Int × hH)} (hr : fX12_col_b178 h a0 a1 a2 a3 l4 l6 s0 = some r) (hk : K r) : Wq p l e R s m args below meth c D G A H0 true n0 M_X12_col x 0 0 178 [(0, (22, a0)), (1, (0, a1)), (2, (0, a2)), (3, (0, a3)), (4, (0, l4)), (6, (0, l6))] [(0, s0)] h := by
  unfold fX12_col_b178 at hr
  refine r_iconst dX12_col_178 (by decide) ?_
  exact oX12_col_b179 (K := K) (fun r z => k0 r z) (fun _ _ z => k1 _ _ z) hr hk
set_option maxRecDepth 100000 in
set_option maxHeartbeats 4000000 in
theorem oX12_col_s116 {a0 a1 a2 a3 l4 l5 l6 : Int} {K : (Int × Int) ⊕ (Int × hH) → Prop} (k0 : ∀ r, K (.inr (r)) → x = (some (0, r.1), r.2)) (k1 : ∀ (l5 : Int) (l6 : Int), K (.inl (l5, l6)) → Wq p l e R s m args below meth c D G A H0 true n0 M_X12_col x 0 0 116 [(0, (22, a0)), (1, (0, a1)), (2, (0, a2)), (3, (0, a3)), (4, (0, l4)), (5, (0, l5)), (6, (0, l6))] [] h) {r : (Int × Int) ⊕ (Int × hH)} (hr : fX12_col_s116 h a0 a1 a2 a3 l4 (l5, l6) = some r) (hk : K r) : Wq p l e R s m args below meth c D G A H0 true n0 M_X12_col x 0 0 116 [(0, (22, a0)), (1, (0, a1)), (2, (0, a2)), (3, (0, a3)), (4, (0, l4)), (5, (0, l5)), (6, (0, l6))] [] h := by
  unfold fX12_col_s116 at hr
  refine r_iload dX12_col_116 6 rfl (Or.inl rfl) ?_
  refine r_aload_n dX12_col_118 rfl 0 rfl (nl rfl) ?_
  refine r_get 12 6 (o := a0) (w := (50, h a0 6)) (T := TX12) (ref := "FollowingRefsModel") rfl (by decide) rfl (by decide) inlX12 (wsl_7 _ (List.mem_of_getElem? (i := 8) rfl)) rfl dX12_col_119 rfl ?_
  refine r_iconst dX12_col_122 (by decide) ?_
  obtain ⟨v123, hg123, hr⟩ := bnd hr
  refine r_iald dX12_col_123 hg123 ?_
  refine r_icmp_ge dX12_col_124 (tgt := 188) (by decide) (fun hc => ?_) (fun hc => ?_)
  · have hr := ifn hr hc
    refine r_iload_n dX12_col_188 rfl 3 rfl (Or.inl rfl) ?_
    refine r_if_ne dX12_col_189 (tgt := 208) (by decide) (fun hc => ?_) (fun hc => ?_)
    · have hr := ifn hr hc
      refine r_iload_n dX12_col_208 rfl 3 rfl (Or.inl rfl) ?_
      refine r_iconst dX12_col_209 (by decide) ?_
      refine r_icmp_ne dX12_col_210 (tgt := 230) (by decide) (fun hc => ?_) (fun hc => ?_)
      · have hr := ifn hr hc
        refine r_iload_n dX12_col_230 rfl 3 rfl (Or.inl rfl) ?_
        refine r_iconst dX12_col_231 (by decide) ?_
        refine r_icmp_ne dX12_col_232 (tgt := 240) (by decide) (fun hc => ?_) (fun hc => ?_)
        · have hr := ifn hr hc
          refine r_iload dX12_col_240 5 rfl (Or.inl rfl) ?_
          obtain rfl := Option.some.inj hr
          exact r_ret dX12_col_242 rfl (Or.inl ⟨rfl, rfl⟩) (k0 _ hk) ⟨rfl, rfl⟩
        · have hr := ifp hr hc
          refine r_iload dX12_col_235 4 rfl (Or.inl rfl) ?_
          refine r_goto dX12_col_237 (tgt := 242) (by decide) ?_
          obtain rfl := Option.some.inj hr
          exact r_ret dX12_col_242 rfl (Or.inl ⟨rfl, rfl⟩) (k0 _ hk) ⟨rfl, rfl⟩
      · have hr := ifp hr hc
        refine r_aload_n dX12_col_213 rfl 0 rfl (nl rfl) ?_
        refine r_iload_n dX12_col_214 rfl 1 rfl (Or.inl rfl) ?_
        refine r_iload_n dX12_col_215 rfl 2 rfl (Or.inl rfl) ?_
        obtain ⟨r216, hg216, hr⟩ := bnd hr
        refine k_V (ci := 12) (o := a0) (T := TX12) (as := [(0, a1), (0, a2)]) (rest := []) (X := (some (2, r216), h)) (oX12_isNeeded hg216) gX12_isNeeded rfl (by decide) rfl (wsl_45 _ (List.mem_of_getElem? (i := 12) rfl)) rfl dX12_col_216 rfl ?_
        refine r_scast 0 (v := (2, r216)) (w := (0, r216)) rfl zc hTz (st' := [(0, r216)]) rfl ?_
        refine r_if_eq dX12_col_219 (tgt := 226) (by decide) (fun hc => ?_) (fun hc => ?_)
        · have hr := ifp hr hc
          refine r_iconst dX12_col_226 (by decide) ?_
          refine r_goto dX12_col_227 (tgt := 242) (by decide) ?_
          obtain rfl := Option.some.inj hr
          exact r_ret dX12_col_242 rfl (Or.inl ⟨rfl, rfl⟩) (k0 _ hk) ⟨rfl, rfl⟩
        · have hr := ifn hr hc
          refine r_iconst dX12_col_222 (by decide) ?_
          refine r_goto dX12_col_223 (tgt := 242) (by decide) ?_
          obtain rfl := Option.some.inj hr
          exact r_ret dX12_col_242 rfl (Or.inl ⟨rfl, rfl⟩) (k0 _ hk) ⟨rfl, rfl⟩
    · have hr := ifp hr hc
      refine r_aload_n dX12_col_192 rfl 0 rfl (nl rfl) ?_
      refine r_get 12 6 (o := a0) (w := (50, h a0 6)) (T := TX12) (ref := "FollowingRefsModel") rfl (by decide) rfl (by decide) inlX12 (wsl_7 _ (List.mem_of_getElem? (i := 8) rfl)) rfl dX12_col_193 rfl ?_
      refine r_bipush dX12_col_196 (by decide) (by decide) ?_
      refine r_iconst dX12_col_198 (by decide) ?_
      refine r_iload_n dX12_col_199 rfl 1 rfl (Or.inl rfl) ?_
      refine r_imul dX12_col_200 ?_
      refine r_iadd dX12_col_201 ?_
      refine r_iload_n dX12_col_202 rfl 2 rfl (Or.inl rfl) ?_
      refine r_iadd dX12_col_203 ?_
      obtain ⟨v204, hg204, hr⟩ := bnd hr
      refine r_iald dX12_col_204 hg204 ?_
      refine r_goto dX12_col_205 (tgt := 242) (by decide) ?_
      obtain rfl := Option.some.inj hr
      exact r_ret dX12_col_242 rfl (Or.inl ⟨rfl, rfl⟩) (k0 _ hk) ⟨rfl, rfl⟩
  · have hr := ifp hr hc
    refine r_iload dX12_col_127 5 rfl (Or.inl rfl) ?_
    refine r_aload_n dX12_col_129 rfl 0 rfl (nl rfl) ?_
    refine r_get 12 6 (o := a0) (w := (50, h a0 6)) (T := TX12) (ref := "FollowingRefsModel") rfl (by decide) rfl (by decide) inlX12 (wsl_7 _ (List.mem_of_getElem? (i := 8) rfl)) rfl dX12_col_130 rfl ?_
    refine r_bipush dX12_col_133 (by decide) (by decide) ?_
    refine r_iload dX12_col_135 6 rfl (Or.inl rfl) ?_
    refine r_iadd dX12_col_137 ?_
    obtain ⟨v138, hg138, hr⟩ := bnd hr
    refine r_iald dX12_col_138 hg138 ?_
    refine r_iload_n dX12_col_139 rfl 1 rfl (Or.inl rfl) ?_
    refine r_icmp_ne dX12_col_140 (tgt := 178) (by decide) (fun hc => ?_) (fun hc => ?_)
    · have hr := ifn hr hc
      refine r_sub [0, 1, 2, 3, 4, 6] (lv' := [(0, (22, a0)), (1, (0, a1)), (2, (0, a2)), (3, (0, a3)), (4, (0, l4)), (6, (0, l6))]) rfl ?_
      exact oX12_col_b178 (K := K) (fun r z => k0 r z) (fun _ _ z => k1 _ _ z) hr hk
    · have hr := ifp hr hc
      refine r_aload_n dX12_col_143 rfl 0 rfl (nl rfl) ?_
      refine r_get 12 6 (o := a0) (w := (50, h a0 6)) (T := TX12) (ref := "FollowingRefsModel") rfl (by decide) rfl (by decide) inlX12 (wsl_7 _ (List.mem_of_getElem? (i := 8) rfl)) rfl dX12_col_144 rfl ?_
      refine r_bipush dX12_col_147 (by decide) (by decide) ?_
      refine r_iload dX12_col_149 6 rfl (Or.inl rfl) ?_
      refine r_iadd dX12_col_151 ?_
      obtain ⟨v152, hg152, hr⟩ := bnd hr
      refine r_iald dX12_col_152 hg152 ?_
      refine r_iload_n dX12_col_153 rfl 2 rfl (Or.inl rfl) ?_
      refine r_icmp_eq dX12_col_154 (tgt := 171) (by decide) (fun hc => ?_) (fun hc => ?_)
      · have hr := ifp hr hc
        refine r_sub [0, 1, 2, 3, 4, 6] (lv' := [(0, (22, a0)), (1, (0, a1)), (2, (0, a2)), (3, (0, a3)), (4, (0, l4)), (6, (0, l6))]) rfl ?_
        exact oX12_col_b171 (K := K) (fun r z => k0 r z) (fun _ _ z => k1 _ _ z) hr hk
      · have hr := ifn hr hc
        refine r_aload_n dX12_col_157 rfl 0 rfl (nl rfl) ?_
        refine r_get 12 6 (o := a0) (w := (50, h a0 6)) (T := TX12) (ref := "FollowingRefsModel") rfl (by decide) rfl (by decide) inlX12 (wsl_7 _ (List.mem_of_getElem? (i := 8) rfl)) rfl dX12_col_158 rfl ?_
        refine r_bipush dX12_col_161 (by decide) (by decide) ?_
        refine r_iload dX12_col_163 6 rfl (Or.inl rfl) ?_
        refine r_iadd dX12_col_165 ?_
        obtain ⟨v166, hg166, hr⟩ := bnd hr
        refine r_iald dX12_col_166 hg166 ?_
        refine r_iload_n dX12_col_167 rfl 2 rfl (Or.inl rfl) ?_
        refine r_icmp_ne dX12_col_168 (tgt := 178) (by decide) (fun hc => ?_) (fun hc => ?_)
        · have hr := ifn hr hc
          refine r_sub [0, 1, 2, 3, 4, 6] (lv' := [(0, (22, a0)), (1, (0, a1)), (2, (0, a2)), (3, (0, a3)), (4, (0, l4)), (6, (0, l6))]) rfl ?_
          exact oX12_col_b178 (K := K) (fun r z => k0 r z) (fun _ _ z => k1 _ _ z) hr hk
        · have hr := ifp hr hc
          refine r_sub [0, 1, 2, 3, 4, 6] (lv' := [(0, (22, a0)), (1, (0, a1)), (2, (0, a2)), (3, (0, a3)), (4, (0, l4)), (6, (0, l6))]) rfl ?_
          exact oX12_col_b171 (K := K) (fun r z => k0 r z) (fun _ _ z => k1 _ _ z) hr hk
set_option maxRecDepth 100000 in
set_option maxHeartbeats 4000000 in
theorem oX12_col_s41 {a0 a1 a2 a3 l5 l4 l6 : Int} {K : (Int × Int) ⊕ (Int × hH) → Prop} (k0 : ∀ r, K (.inr (r)) → x = (some (0, r.1), r.2)) (k1 : ∀ (l4 : Int) (l6 : Int), K (.inl (l4, l6)) → Wq p l e R s m args below meth c D G A H0 true n0 M_X12_col x 0 0 41 [(0, (22, a0)), (1, (0, a1)), (2, (0, a2)), (3, (0, a3)), (4, (0, l4)), (5, (2, l5)), (6, (0, l6))] [] h) {r : (Int × Int) ⊕ (Int × hH)} (hr : fX12_col_s41 h a0 a1 a2 a3 l5 (l4, l6) = some r) (hk : K r) : Wq p l e R s m args below meth c D G A H0 true n0 M_X12_col x 0 0 41 [(0, (22, a0)), (1, (0, a1)), (2, (0, a2)), (3, (0, a3)), (4, (0, l4)), (5, (2, l5)), (6, (0, l6))] [] h := by
  unfold fX12_col_s41 at hr
  refine r_iload dX12_col_41 6 rfl (Or.inl rfl) ?_
  refine r_aload_n dX12_col_43 rfl 0 rfl (nl rfl) ?_
  refine r_get 12 6 (o := a0) (w := (50, h a0 6)) (T := TX12) (ref := "FollowingRefsModel") rfl (by decide) rfl (by decide) inlX12 (wsl_7 _ (List.mem_of_getElem? (i := 8) rfl)) rfl dX12_col_44 rfl ?_
  refine r_iconst dX12_col_47 (by decide) ?_
  obtain ⟨v48, hg48, hr⟩ := bnd hr
  refine r_iald dX12_col_48 hg48 ?_
  refine r_icmp_ge dX12_col_49 (tgt := 113) (by decide) (fun hc => ?_) (fun hc => ?_)
  · have hr := ifn hr hc
    refine r_iconst dX12_col_113 (by decide) ?_
    refine r_istore dX12_col_114 (Or.inl rfl) (by decide) (lv' := [(6, (0, 0)), (0, (22, a0)), (1, (0, a1)), (2, (0, a2)), (3, (0, a3)), (4, (0, l4)), (5, (2, l5))]) rfl ?_
    refine r_lcast 6 (v := (2, l5)) (w := (0, l5)) rfl zc hTz (lv' := [(6, (0, 0)), (0, (22, a0)), (1, (0, a1)), (2, (0, a2)), (3, (0, a3)), (4, (0, l4)), (5, (0, l5))]) rfl ?_
    refine r_sub [1, 2, 3, 4, 5, 6, 0] (lv' := [(0, (22, a0)), (1, (0, a1)), (2, (0, a2)), (3, (0, a3)), (4, (0, l4)), (5, (0, l5)), (6, (0, 0))]) rfl ?_
    obtain ⟨r9, hr9, rfl⟩ := mpp hr
    exact lp_ok (w := fun (q : Int × Int) => Wq p l e R s m args below meth c D G A H0 true n0 M_X12_col x 0 0 116 [(0, (22, a0)), (1, (0, a1)), (2, (0, a2)), (3, (0, a3)), (4, (0, l4)), (5, (0, q.1)), (6, (0, q.2))] [] (h)) (K := fun z9 => K (.inr (z9))) (fun ⟨q0, q1⟩ r h1 h2 => oX12_col_s116 (K := Sum.elim (fun (q : Int × Int) => Wq p l e R s m args below meth c D G A H0 true n0 M_X12_col x 0 0 116 [(0, (22, a0)), (1, (0, a1)), (2, (0, a2)), (3, (0, a3)), (4, (0, l4)), (5, (0, q.1)), (6, (0, q.2))] [] (h)) (fun z9 => K (.inr (z9)))) (fun r z => k0 r z) (fun _ _ z => z) h1 h2) hr9 hk
  · have hr := ifp hr hc
    refine r_iload dX12_col_52 4 rfl (Or.inl rfl) ?_
    refine r_aload_n dX12_col_54 rfl 0 rfl (nl rfl) ?_
    refine r_get 12 6 (o := a0) (w := (50, h a0 6)) (T := TX12) (ref := "FollowingRefsModel") rfl (by decide) rfl (by decide) inlX12 (wsl_7 _ (List.mem_of_getElem? (i := 8) rfl)) rfl dX12_col_55 rfl ?_
    refine r_bipush dX12_col_58 (by decide) (by decide) ?_
    refine r_iload dX12_col_60 6 rfl (Or.inl rfl) ?_
    refine r_iadd dX12_col_62 ?_
    obtain ⟨v63, hg63, hr⟩ := bnd hr
    refine r_iald dX12_col_63 hg63 ?_
    refine r_iload_n dX12_col_64 rfl 1 rfl (Or.inl rfl) ?_
    refine r_icmp_ne dX12_col_65 (tgt := 103) (by decide) (fun hc => ?_) (fun hc => ?_)
    · have hr := ifn hr hc
      refine r_sub [0, 1, 2, 3, 5, 6] (lv' := [(0, (22, a0)), (1, (0, a1)), (2, (0, a2)), (3, (0, a3)), (5, (2, l5)), (6, (0, l6))]) rfl ?_
      exact oX12_col_b103 (K := K) (fun r z => k0 r z) (fun _ _ z => k1 _ _ z) hr hk
    · have hr := ifp hr hc
      refine r_aload_n dX12_col_68 rfl 0 rfl (nl rfl) ?_
      refine r_get 12 6 (o := a0) (w := (50, h a0 6)) (T := TX12) (ref := "FollowingRefsModel") rfl (by decide) rfl (by decide) inlX12 (wsl_7 _ (List.mem_of_getElem? (i := 8) rfl)) rfl dX12_col_69 rfl ?_
      refine r_bipush dX12_col_72 (by decide) (by decide) ?_
      refine r_iload dX12_col_74 6 rfl (Or.inl rfl) ?_
      refine r_iadd dX12_col_76 ?_
      obtain ⟨v77, hg77, hr⟩ := bnd hr
      refine r_iald dX12_col_77 hg77 ?_
      refine r_iload_n dX12_col_78 rfl 2 rfl (Or.inl rfl) ?_
      refine r_icmp_eq dX12_col_79 (tgt := 96) (by decide) (fun hc => ?_) (fun hc => ?_)
      · have hr := ifp hr hc
        refine r_sub [0, 1, 2, 3, 5, 6] (lv' := [(0, (22, a0)), (1, (0, a1)), (2, (0, a2)), (3, (0, a3)), (5, (2, l5)), (6, (0, l6))]) rfl ?_
        exact oX12_col_b96 (K := K) (fun r z => k0 r z) (fun _ _ z => k1 _ _ z) hr hk
      · have hr := ifn hr hc
        refine r_aload_n dX12_col_82 rfl 0 rfl (nl rfl) ?_
        refine r_get 12 6 (o := a0) (w := (50, h a0 6)) (T := TX12) (ref := "FollowingRefsModel") rfl (by decide) rfl (by decide) inlX12 (wsl_7 _ (List.mem_of_getElem? (i := 8) rfl)) rfl dX12_col_83 rfl ?_
        refine r_bipush dX12_col_86 (by decide) (by decide) ?_
        refine r_iload dX12_col_88 6 rfl (Or.inl rfl) ?_
        refine r_iadd dX12_col_90 ?_
        obtain ⟨v91, hg91, hr⟩ := bnd hr
        refine r_iald dX12_col_91 hg91 ?_
        refine r_iload_n dX12_col_92 rfl 2 rfl (Or.inl rfl) ?_
        refine r_icmp_ne dX12_col_93 (tgt := 103) (by decide) (fun hc => ?_) (fun hc => ?_)
        · have hr := ifn hr hc
          refine r_sub [0, 1, 2, 3, 5, 6] (lv' := [(0, (22, a0)), (1, (0, a1)), (2, (0, a2)), (3, (0, a3)), (5, (2, l5)), (6, (0, l6))]) rfl ?_
          exact oX12_col_b103 (K := K) (fun r z => k0 r z) (fun _ _ z => k1 _ _ z) hr hk
        · have hr := ifp hr hc
          refine r_sub [0, 1, 2, 3, 5, 6] (lv' := [(0, (22, a0)), (1, (0, a1)), (2, (0, a2)), (3, (0, a3)), (5, (2, l5)), (6, (0, l6))]) rfl ?_
          exact oX12_col_b96 (K := K) (fun r z => k0 r z) (fun _ _ z => k1 _ _ z) hr hk
set_option maxRecDepth 100000 in
set_option maxHeartbeats 4000000 in
theorem oX12_col_b24 {a0 a1 a2 a3 s0 s1 : Int} {K : Int × hH → Prop} (k0 : ∀ r, K (r) → x = (some (0, r.1), r.2)) {r : Int × hH} (hr : fX12_col_b24 h a0 a1 a2 a3 s0 s1 = some r) (hk : K r) : Wq p l e R s m args below meth c D G A H0 true n0 M_X12_col x 0 0 24 [(0, (22, a0)), (1, (0, a1)), (2, (0, a2)), (3, (0, a3))] [(2, s0), (22, s1)] h := by
  unfold fX12_col_b24 at hr
  obtain ⟨q24, hg24, hr⟩ := bnd hr
  refine k_V (ci := 12) (o := s1) (T := TX12) (as := [(2, s0)]) (rest := []) (X := (some (2, q24.1), q24.2)) (oX12_throwsIf hg24) gX12_throwsIf rfl (by decide) rfl (wsl_55 _ (List.mem_of_getElem? (i := 13) rfl)) rfl dX12_col_24 rfl ?_
  refine r_scast 0 (v := (2, q24.1)) (w := (0, q24.1)) rfl zc hTz (st' := [(0, q24.1)]) rfl ?_
  refine r_if_eq dX12_col_27 (tgt := 32) (by decide) (fun hc => ?_) (fun hc => ?_)
  · have hr := ifp hr hc
    refine r_iconst dX12_col_32 (by decide) ?_
    refine r_istore dX12_col_33 (Or.inl rfl) (by decide) (lv' := [(4, (0, 0)), (0, (22, a0)), (1, (0, a1)), (2, (0, a2)), (3, (0, a3))]) rfl ?_
    refine r_iconst dX12_col_35 (by decide) ?_
    refine r_istore dX12_col_36 (Or.inl rfl) (by decide) (lv' := [(5, (0, 0)), (4, (0, 0)), (0, (22, a0)), (1, (0, a1)), (2, (0, a2)), (3, (0, a3))]) rfl ?_
    refine r_iconst dX12_col_38 (by decide) ?_
    refine r_istore dX12_col_39 (Or.inl rfl) (by decide) (lv' := [(6, (0, 0)), (5, (0, 0)), (4, (0, 0)), (0, (22, a0)), (1, (0, a1)), (2, (0, a2)), (3, (0, a3))]) rfl ?_
    refine r_lcast 1 (v := (0, 0)) (w := (2, 0)) rfl cz (fun _ => Or.inl rfl) (lv' := [(6, (0, 0)), (5, (2, 0)), (4, (0, 0)), (0, (22, a0)), (1, (0, a1)), (2, (0, a2)), (3, (0, a3))]) rfl ?_
    refine r_sub [3, 4, 5, 6, 2, 1, 0] (lv' := [(0, (22, a0)), (1, (0, a1)), (2, (0, a2)), (3, (0, a3)), (4, (0, 0)), (5, (2, 0)), (6, (0, 0))]) rfl ?_
    exact lp_ok (w := fun (q : Int × Int) => Wq p l e R s m args below meth c D G A H0 true n0 M_X12_col x 0 0 41 [(0, (22, a0)), (1, (0, a1)), (2, (0, a2)), (3, (0, a3)), (4, (0, q.1)), (5, (2, 0)), (6, (0, q.2))] [] (q24.2)) (K := K) (fun ⟨q0, q1⟩ r h1 h2 => oX12_col_s41 (K := Sum.elim (fun (q : Int × Int) => Wq p l e R s m args below meth c D G A H0 true n0 M_X12_col x 0 0 41 [(0, (22, a0)), (1, (0, a1)), (2, (0, a2)), (3, (0, a3)), (4, (0, q.1)), (5, (2, 0)), (6, (0, q.2))] [] (q24.2)) (K)) (fun r z => k0 r z) (fun _ _ z => z) h1 h2) hr hk
  · have hr := ifn hr hc
    refine r_iconst dX12_col_30 (by decide) ?_
    obtain rfl := Option.some.inj hr
    exact r_ret dX12_col_31 rfl (Or.inl ⟨rfl, rfl⟩) (k0 _ hk) ⟨rfl, rfl⟩
set_option maxRecDepth 100000 in
set_option maxHeartbeats 4000000 in
theorem oX12_col_b19 {a0 a1 a2 a3 s0 : Int} {K : Int × hH → Prop} (k0 : ∀ r, K (r) → x = (some (0, r.1), r.2)) {r : Int × hH} (hr : fX12_col_b19 h a0 a1 a2 a3 s0 = some r) (hk : K r) : Wq p l e R s m args below meth c D G A H0 true n0 M_X12_col x 0 0 19 [(0, (22, a0)), (1, (0, a1)), (2, (0, a2)), (3, (0, a3))] [(22, s0)] h := by
  unfold fX12_col_b19 at hr
  refine r_iconst dX12_col_19 (by decide) ?_
  refine r_goto dX12_col_20 (tgt := 24) (by decide) ?_
  refine r_scast 0 (v := (0, 1)) (w := (2, 1)) rfl cz (fun _ => Or.inr rfl) (st' := [(2, 1), (22, s0)]) rfl ?_
  exact oX12_col_b24 (K := K) (fun r z => k0 r z) hr hk
set_option maxRecDepth 100000 in
set_option maxHeartbeats 4000000 in
theorem oX12_col_b0 {a0 a1 a2 a3 : Int} {K : Int × hH → Prop} (k0 : ∀ r, K (r) → x = (some (0, r.1), r.2)) {r : Int × hH} (hr : fX12_col h a0 a1 a2 a3 = some r) (hk : K r) : Wq p l e R s m args below meth c D G A H0 true n0 M_X12_col x 0 0 0 [(0, (22, a0)), (1, (0, a1)), (2, (0, a2)), (3, (0, a3))] [] h := by
  unfold fX12_col at hr
  refine r_aload_n dX12_col_0 rfl 0 rfl (nl rfl) ?_
  refine r_aload_n dX12_col_1 rfl 0 rfl (nl rfl) ?_
  refine r_iload_n dX12_col_2 rfl 1 rfl (Or.inl rfl) ?_
  refine r_iload_n dX12_col_3 rfl 2 rfl (Or.inl rfl) ?_
  obtain ⟨r4, hg4, hr⟩ := bnd hr
  refine k_V (ci := 12) (o := a0) (T := TX12) (as := [(0, a1), (0, a2)]) (rest := [(22, a0)]) (X := (some (2, r4), h)) (oX12_isCol hg4) gX12_isCol rfl (by decide) rfl (wsl_55 _ (List.mem_of_getElem? (i := 9) rfl)) rfl dX12_col_4 rfl ?_
  refine r_scast 0 (v := (2, r4)) (w := (0, r4)) rfl zc hTz (st' := [(0, r4), (22, a0)]) rfl ?_
  refine r_if_eq dX12_col_7 (tgt := 19) (by decide) (fun hc => ?_) (fun hc => ?_)
  · have hr := ifp hr hc
    exact oX12_col_b19 (K := K) (fun r z => k0 r z) hr hk
  · have hr := ifn hr hc
    refine r_iload_n dX12_col_10 rfl 3 rfl (Or.inl rfl) ?_
    refine r_iconst dX12_col_11 (by decide) ?_
    refine r_iconst dX12_col_12 (by decide) ?_
    obtain ⟨r13, hg13, hr⟩ := bnd hr
    refine k_S (as := [(0, a3), (0, 0), (0, 3)]) (rest := [(22, a0)]) (X := (some (2, r13), h)) (oX12_isIn hg13) gX12_isIn rfl (wsl_28 _ (List.mem_of_getElem? (i := 1) rfl)) rfl dX12_col_13 rfl ?_
    refine r_scast 0 (v := (2, r13)) (w := (0, r13)) rfl zc hTz (st' := [(0, r13), (22, a0)]) rfl ?_
    refine r_if_ne dX12_col_16 (tgt := 23) (by decide) (fun hc => ?_) (fun hc => ?_)
    · have hr := ifn hr hc
      refine r_iconst dX12_col_23 (by decide) ?_
      refine r_scast 0 (v := (0, 0)) (w := (2, 0)) rfl cz (fun _ => Or.inl rfl) (st' := [(2, 0), (22, a0)]) rfl ?_
      exact oX12_col_b24 (K := K) (fun r z => k0 r z) hr hk
    · have hr := ifp hr hc
      exact oX12_col_b19 (K := K) (fun r z => k0 r z) hr hk
end M_X12_col
theorem oX12_col {l : Launch} {D : va_G} {G : gG} {h : hH} {a0 a1 a2 a3 : Int} {r : Int × hH} (hr : fX12_col h a0 a1 a2 a3 = some r) : Ctr l D G true yX12_col M_X12_col [(22, a0), (0, a1), (0, a2), (0, a3)] h (some (0, r.1), r.2) :=
  Ctr_of (by decide) rfl (fun z => by cases z) (nl rfl) (fun {p e R s m args below meth c A H0} => by
    exact oX12_col_b0 (K := fun z9 => z9 = r) (fun r9 z => by rw [z]) hr rfl)
