/-! X11_at -/
theorem dX11_at_0 : decode cX11_at 0 = .ok (.iload_n 1, 1) := by decide +kernel
theorem dX11_at_1 : decode cX11_at 1 = .ok (.ifCond .lt 15, 3) := by decide +kernel
theorem dX11_at_4 : decode cX11_at 4 = .ok (.iload_n 1, 1) := by decide +kernel
theorem dX11_at_5 : decode cX11_at 5 = .ok (.aload_n 0, 1) := by decide +kernel
theorem dX11_at_6 : decode cX11_at 6 = .ok (.arraylength, 1) := by decide +kernel
theorem dX11_at_7 : decode cX11_at 7 = .ok (.if_icmp .ge 9, 3) := by decide +kernel
theorem dX11_at_10 : decode cX11_at 10 = .ok (.aload_n 0, 1) := by decide +kernel
theorem dX11_at_11 : decode cX11_at 11 = .ok (.iload_n 1, 1) := by decide +kernel
theorem dX11_at_12 : decode cX11_at 12 = .ok (.iaload, 1) := by decide +kernel
theorem dX11_at_13 : decode cX11_at 13 = .ok (.goto 4, 3) := by decide +kernel
theorem dX11_at_16 : decode cX11_at 16 = .ok (.iconst (-1), 1) := by decide +kernel
theorem dX11_at_17 : decode cX11_at 17 = .ok (.ireturn, 1) := by decide +kernel
abbrev M_X11_at : mM := (cX11_at, 2, RX11, some .int, false, 0, 0, 0, 0)
theorem gX11_at : cS yX11_at M_X11_at 2 := ⟨(wsl_20 _ (List.mem_of_getElem? (i := 3) rfl)), (wsl_1 _ (List.mem_of_getElem? (i := 2) rfl)), (wsl_20 _ (List.mem_of_getElem? (i := 4) rfl)), by decide +kernel⟩
noncomputable def fX11_at (h : hH) (a0 a1 : Int) : Option (Int) :=
  if a1 < 0 then
    some (-1)
  else
    if a1 < h a0 (-1) then
      (aget h a0 a1).bind fun v12 =>
      some v12
    else
      some (-1)
section M_X11_at
variable {p : Program} {l : Launch} {e : Env} {R : Room} {s : State} {m : MethodId} {args : Array Value} {below : List Frame} {meth : Method} {c : Code} {D : va_G} {G : gG} {A : Nat → Prop} {H0 : Heap} {n0 : Int} {x : Option vV × hH} {h : hH}
set_option maxRecDepth 100000 in
set_option maxHeartbeats 4000000 in
theorem oX11_at_b0 {a0 a1 : Int} {K : Int → Prop} (k0 : ∀ r, K (r) → x = (some (0, r), h)) {r : Int} (hr : fX11_at h a0 a1 = some r) (hk : K r) : Wq p l e R s m args below meth c D G A H0 true n0 M_X11_at x 0 0 0 [(0, (50, a0)), (1, (0, a1))] [] h := by
  unfold fX11_at at hr
  refine r_iload_n dX11_at_0 rfl 1 rfl (Or.inl rfl) ?_
  refine r_if_lt dX11_at_1 (tgt := 16) (by decide) (fun hc => ?_) (fun hc => ?_)
  · have hr := ifp hr hc
    refine r_iconst dX11_at_16 (by decide) ?_
    obtain rfl := Option.some.inj hr
    exact r_ret dX11_at_17 rfl (Or.inl ⟨rfl, rfl⟩) (k0 _ hk) ⟨rfl, rfl⟩
  · have hr := ifn hr hc
    refine r_iload_n dX11_at_4 rfl 1 rfl (Or.inl rfl) ?_
    refine r_aload_n dX11_at_5 rfl 0 rfl (nl rfl) ?_
    refine r_alen (t := 50) (by decide) (by decide) dX11_at_6 ?_
    refine r_icmp_ge dX11_at_7 (tgt := 16) (by decide) (fun hc => ?_) (fun hc => ?_)
    · have hr := ifn hr hc
      refine r_iconst dX11_at_16 (by decide) ?_
      obtain rfl := Option.some.inj hr
      exact r_ret dX11_at_17 rfl (Or.inl ⟨rfl, rfl⟩) (k0 _ hk) ⟨rfl, rfl⟩
    · have hr := ifp hr hc
      refine r_aload_n dX11_at_10 rfl 0 rfl (nl rfl) ?_
      refine r_iload_n dX11_at_11 rfl 1 rfl (Or.inl rfl) ?_
      obtain ⟨v12, hg12, hr⟩ := bnd hr
      refine r_iald dX11_at_12 hg12 ?_
      refine r_goto dX11_at_13 (tgt := 17) (by decide) ?_
      obtain rfl := Option.some.inj hr
      exact r_ret dX11_at_17 rfl (Or.inl ⟨rfl, rfl⟩) (k0 _ hk) ⟨rfl, rfl⟩
end M_X11_at
theorem oX11_at {l : Launch} {D : va_G} {G : gG} {h : hH} {a0 a1 : Int} {r : Int} (hr : fX11_at h a0 a1 = some r) : Ctr l D G true yX11_at M_X11_at [(50, a0), (0, a1)] h (some (0, r), h) :=
  Ctr_of (by decide) rfl (fun z => by cases z) (nl rfl) (fun {p e R s m args below meth c A H0} => by
    exact oX11_at_b0 (K := fun z9 => z9 = r) (fun r9 z => by rw [z]) hr rfl)
/-! X11_put -/
theorem dX11_put_0 : decode cX11_put 0 = .ok (.iload_n 1, 1) := by decide +kernel
theorem dX11_put_1 : decode cX11_put 1 = .ok (.ifCond .lt 13, 3) := by decide +kernel
theorem dX11_put_4 : decode cX11_put 4 = .ok (.iload_n 1, 1) := by decide +kernel
theorem dX11_put_5 : decode cX11_put 5 = .ok (.aload_n 0, 1) := by decide +kernel
theorem dX11_put_6 : decode cX11_put 6 = .ok (.arraylength, 1) := by decide +kernel
theorem dX11_put_7 : decode cX11_put 7 = .ok (.if_icmp .ge 7, 3) := by decide +kernel
theorem dX11_put_10 : decode cX11_put 10 = .ok (.aload_n 0, 1) := by decide +kernel
theorem dX11_put_11 : decode cX11_put 11 = .ok (.iload_n 1, 1) := by decide +kernel
theorem dX11_put_12 : decode cX11_put 12 = .ok (.iload_n 2, 1) := by decide +kernel
theorem dX11_put_13 : decode cX11_put 13 = .ok (.iastore, 1) := by decide +kernel
theorem dX11_put_14 : decode cX11_put 14 = .ok (.return_, 1) := by decide +kernel
abbrev M_X11_put : mM := (cX11_put, 3, RX11, none, false, 0, 0, 0, 0)
theorem gX11_put : cS yX11_put M_X11_put 3 := ⟨(wsl_17 _ (List.mem_of_getElem? (i := 8) rfl)), (wsl_1 _ (List.mem_of_getElem? (i := 2) rfl)), (wsl_17 _ (List.mem_of_getElem? (i := 9) rfl)), by decide +kernel⟩
noncomputable def fX11_put (h : hH) (a0 a1 a2 : Int) : Option (hH) :=
  if a1 < 0 then
    some h
  else
    if a1 < h a0 (-1) then
      (aput h a0 a1 a2).bind fun h13 =>
      some h13
    else
      some h
section M_X11_put
variable {p : Program} {l : Launch} {e : Env} {R : Room} {s : State} {m : MethodId} {args : Array Value} {below : List Frame} {meth : Method} {c : Code} {D : va_G} {G : gG} {A : Nat → Prop} {H0 : Heap} {n0 : Int} {x : Option vV × hH} {h : hH}
set_option maxRecDepth 100000 in
set_option maxHeartbeats 4000000 in
theorem oX11_put_b0 {a0 a1 a2 : Int} {K : hH → Prop} (k0 : ∀ r, K (r) → x = (none, r)) {r : hH} (hr : fX11_put h a0 a1 a2 = some r) (hk : K r) : Wq p l e R s m args below meth c D G A H0 true n0 M_X11_put x 0 0 0 [(0, (50, a0)), (1, (0, a1)), (2, (0, a2))] [] h := by
  unfold fX11_put at hr
  refine r_iload_n dX11_put_0 rfl 1 rfl (Or.inl rfl) ?_
  refine r_if_lt dX11_put_1 (tgt := 14) (by decide) (fun hc => ?_) (fun hc => ?_)
  · have hr := ifp hr hc
    obtain rfl := Option.some.inj hr
    exact r_vret dX11_put_14 rfl (k0 _ hk) ⟨rfl, rfl⟩
  · have hr := ifn hr hc
    refine r_iload_n dX11_put_4 rfl 1 rfl (Or.inl rfl) ?_
    refine r_aload_n dX11_put_5 rfl 0 rfl (nl rfl) ?_
    refine r_alen (t := 50) (by decide) (by decide) dX11_put_6 ?_
    refine r_icmp_ge dX11_put_7 (tgt := 14) (by decide) (fun hc => ?_) (fun hc => ?_)
    · have hr := ifn hr hc
      obtain rfl := Option.some.inj hr
      exact r_vret dX11_put_14 rfl (k0 _ hk) ⟨rfl, rfl⟩
    · have hr := ifp hr hc
      refine r_aload_n dX11_put_10 rfl 0 rfl (nl rfl) ?_
      refine r_iload_n dX11_put_11 rfl 1 rfl (Or.inl rfl) ?_
      refine r_iload_n dX11_put_12 rfl 2 rfl (Or.inl rfl) ?_
      obtain ⟨h13, hg13, hr⟩ := bnd hr
      refine r_iast dX11_put_13 hg13 ?_
      obtain rfl := Option.some.inj hr
      exact r_vret dX11_put_14 rfl (k0 _ hk) ⟨rfl, rfl⟩
end M_X11_put
theorem oX11_put {l : Launch} {D : va_G} {G : gG} {h : hH} {a0 a1 a2 : Int} {r : hH} (hr : fX11_put h a0 a1 a2 = some r) : Ctr l D G true yX11_put M_X11_put [(50, a0), (0, a1), (0, a2)] h (none, r) :=
  Ctr_of (by decide) rfl (fun z => by cases z) (nl rfl) (fun {p e R s m args below meth c A H0} => by
    exact oX11_put_b0 (K := fun z9 => z9 = r) (fun r9 z => by rw [z]) hr rfl)
/-! X3_slotOf -/
theorem dX3_slotOf_0 : decode cX3_slotOf 0 = .ok (.iconst 0, 1) := by decide +kernel
theorem dX3_slotOf_1 : decode cX3_slotOf 1 = .ok (.istore_n 2, 1) := by decide +kernel
theorem dX3_slotOf_2 : decode cX3_slotOf 2 = .ok (.iload_n 2, 1) := by decide +kernel
theorem dX3_slotOf_3 : decode cX3_slotOf 3 = .ok (.aload_n 0, 1) := by decide +kernel
theorem dX3_slotOf_4 : decode cX3_slotOf 4 = .ok (.getfield 21, 3) := by decide +kernel
theorem dX3_slotOf_7 : decode cX3_slotOf 7 = .ok (.if_icmp .ge 23, 3) := by decide +kernel
theorem dX3_slotOf_10 : decode cX3_slotOf 10 = .ok (.aload_n 0, 1) := by decide +kernel
theorem dX3_slotOf_11 : decode cX3_slotOf 11 = .ok (.getfield 9, 3) := by decide +kernel
theorem dX3_slotOf_14 : decode cX3_slotOf 14 = .ok (.iload_n 2, 1) := by decide +kernel
theorem dX3_slotOf_15 : decode cX3_slotOf 15 = .ok (.invokestatic 46, 3) := by decide +kernel
theorem dX3_slotOf_18 : decode cX3_slotOf 18 = .ok (.iload_n 1, 1) := by decide +kernel
theorem dX3_slotOf_19 : decode cX3_slotOf 19 = .ok (.if_icmp .ne 5, 3) := by decide +kernel
theorem dX3_slotOf_22 : decode cX3_slotOf 22 = .ok (.iload_n 2, 1) := by decide +kernel
theorem dX3_slotOf_23 : decode cX3_slotOf 23 = .ok (.ireturn, 1) := by decide +kernel
theorem dX3_slotOf_24 : decode cX3_slotOf 24 = .ok (.iinc 2 1, 3) := by decide +kernel
theorem dX3_slotOf_27 : decode cX3_slotOf 27 = .ok (.goto (-25), 3) := by decide +kernel
theorem dX3_slotOf_30 : decode cX3_slotOf 30 = .ok (.iconst (-1), 1) := by decide +kernel
theorem dX3_slotOf_31 : decode cX3_slotOf 31 = .ok (.ireturn, 1) := by decide +kernel
abbrev M_X3_slotOf : mM := (cX3_slotOf, 3, RX3, some .int, false, 1, 21, 0, 0)
theorem gX3_slotOf : cI yX3_slotOf M_X3_slotOf 1 := ⟨(wsl_54 _ (List.mem_of_getElem? (i := 0) rfl)), (wsl_54 _ (List.mem_of_getElem? (i := 1) rfl)), (wsl_4 _ (List.mem_of_getElem? (i := 5) rfl)), (wsl_54 _ (List.mem_of_getElem? (i := 2) rfl)), by decide +kernel⟩
noncomputable def fX3_slotOf_s2 (h : hH) (a0 a1 : Int) : Int → Option ((Int) ⊕ (Int)) := fun l2 =>
  if l2 < h a0 0 then
    (fX11_at h (h a0 2) l2).bind fun r15 =>
    if r15 = a1 then
      some (.inr (l2))
    else
      some (.inl (w32 (l2 + 1)))
  else
    some (.inr (-1))
noncomputable def fX3_slotOf (h : hH) (a0 a1 : Int) : Option (Int) :=
  lpO (fX3_slotOf_s2 h a0 a1) 0
section M_X3_slotOf
variable {p : Program} {l : Launch} {e : Env} {R : Room} {s : State} {m : MethodId} {args : Array Value} {below : List Frame} {meth : Method} {c : Code} {D : va_G} {G : gG} {A : Nat → Prop} {H0 : Heap} {n0 : Int} {x : Option vV × hH} {h : hH}
set_option maxRecDepth 100000 in
set_option maxHeartbeats 4000000 in
theorem oX3_slotOf_s2 {a0 a1 l2 : Int} {K : (Int) ⊕ (Int) → Prop} (k0 : ∀ r, K (.inr (r)) → x = (some (0, r), h)) (k1 : ∀ (l2 : Int), K (.inl l2) → Wq p l e R s m args below meth c D G A H0 true n0 M_X3_slotOf x 0 0 2 [(0, (13, a0)), (1, (0, a1)), (2, (0, l2))] [] h) {r : (Int) ⊕ (Int)} (hr : fX3_slotOf_s2 h a0 a1 l2 = some r) (hk : K r) : Wq p l e R s m args below meth c D G A H0 true n0 M_X3_slotOf x 0 0 2 [(0, (13, a0)), (1, (0, a1)), (2, (0, l2))] [] h := by
  unfold fX3_slotOf_s2 at hr
  refine r_iload_n dX3_slotOf_2 rfl 2 rfl (Or.inl rfl) ?_
  refine r_aload_n dX3_slotOf_3 rfl 0 rfl (nl rfl) ?_
  refine r_get 3 0 (o := a0) (w := (0, h a0 0)) (T := TX3) (ref := "FollowingRefs$Rows") rfl (by decide) rfl (by decide) inlX3 (wsl_22 _ (List.mem_of_getElem? (i := 23) rfl)) rfl dX3_slotOf_4 rfl ?_
  refine r_icmp_ge dX3_slotOf_7 (tgt := 30) (by decide) (fun hc => ?_) (fun hc => ?_)
  · have hr := ifn hr hc
    refine r_iconst dX3_slotOf_30 (by decide) ?_
    obtain rfl := Option.some.inj hr
    exact r_ret dX3_slotOf_31 rfl (Or.inl ⟨rfl, rfl⟩) (k0 _ hk) ⟨rfl, rfl⟩
  · have hr := ifp hr hc
    refine r_aload_n dX3_slotOf_10 rfl 0 rfl (nl rfl) ?_
    refine r_get 3 2 (o := a0) (w := (50, h a0 2)) (T := TX3) (ref := "FollowingRefs$Rows") rfl (by decide) rfl (by decide) inlX3 (wsl_4 _ (List.mem_of_getElem? (i := 11) rfl)) rfl dX3_slotOf_11 rfl ?_
    refine r_iload_n dX3_slotOf_14 rfl 2 rfl (Or.inl rfl) ?_
    obtain ⟨r15, hg15, hr⟩ := bnd hr
    refine k_SN (host := "FollowingRefs") (as := [(50, h a0 2), (0, l2)]) (rest := []) (X := (some (0, r15), h)) (oX11_at hg15) gX11_at rfl (List.mem_of_getElem? (i := 20) rfl) rfl dX3_slotOf_15 rfl ?_
    refine r_iload_n dX3_slotOf_18 rfl 1 rfl (Or.inl rfl) ?_
    refine r_icmp_ne dX3_slotOf_19 (tgt := 24) (by decide) (fun hc => ?_) (fun hc => ?_)
    · have hr := ifn hr hc
      refine r_iinc (k := 2) (v := l2) dX3_slotOf_24 rfl (by decide) (lv' := [(2, (0, w32 (l2 + 1))), (0, (13, a0)), (1, (0, a1))]) rfl ?_
      refine r_goto dX3_slotOf_27 (tgt := 2) (by decide) ?_
      refine r_sub [1, 2, 0] (lv' := [(0, (13, a0)), (1, (0, a1)), (2, (0, w32 (l2 + 1)))]) rfl ?_
      obtain rfl := Option.some.inj hr
      exact k1 _ hk
    · have hr := ifp hr hc
      refine r_iload_n dX3_slotOf_22 rfl 2 rfl (Or.inl rfl) ?_
      obtain rfl := Option.some.inj hr
      exact r_ret dX3_slotOf_23 rfl (Or.inl ⟨rfl, rfl⟩) (k0 _ hk) ⟨rfl, rfl⟩
set_option maxRecDepth 100000 in
set_option maxHeartbeats 4000000 in
theorem oX3_slotOf_b0 {a0 a1 : Int} {K : Int → Prop} (k0 : ∀ r, K (r) → x = (some (0, r), h)) {r : Int} (hr : fX3_slotOf h a0 a1 = some r) (hk : K r) : Wq p l e R s m args below meth c D G A H0 true n0 M_X3_slotOf x 0 0 0 [(0, (13, a0)), (1, (0, a1))] [] h := by
  unfold fX3_slotOf at hr
  refine r_iconst dX3_slotOf_0 (by decide) ?_
  refine r_istore_n dX3_slotOf_1 rfl (Or.inl rfl) (by decide) (lv' := [(2, (0, 0)), (0, (13, a0)), (1, (0, a1))]) rfl ?_
  refine r_sub [1, 2, 0] (lv' := [(0, (13, a0)), (1, (0, a1)), (2, (0, 0))]) rfl ?_
  exact lp_ok (w := fun q => Wq p l e R s m args below meth c D G A H0 true n0 M_X3_slotOf x 0 0 2 [(0, (13, a0)), (1, (0, a1)), (2, (0, q))] [] (h)) (K := K) (fun q r h1 h2 => oX3_slotOf_s2 (K := Sum.elim (fun q => Wq p l e R s m args below meth c D G A H0 true n0 M_X3_slotOf x 0 0 2 [(0, (13, a0)), (1, (0, a1)), (2, (0, q))] [] (h)) (K)) (fun r z => k0 r z) (fun _ z => z) h1 h2) hr hk
end M_X3_slotOf
theorem oX3_slotOf {l : Launch} {D : va_G} {G : gG} {h : hH} {a0 a1 : Int} {r : Int} (hr : fX3_slotOf h a0 a1 = some r) : Ctr l D G true yX3_slotOf M_X3_slotOf [(13, a0), (0, a1)] h (some (0, r), h) :=
  Ctr_of (by decide) rfl (fun z => by cases z) (nl rfl) (fun {p e R s m args below meth c A H0} => by
    exact oX3_slotOf_b0 (K := fun z9 => z9 = r) (fun r9 z => by rw [z]) hr rfl)
/-! X3_tableAt -/
theorem dX3_tableAt_0 : decode cX3_tableAt 0 = .ok (.iload_n 1, 1) := by decide +kernel
theorem dX3_tableAt_1 : decode cX3_tableAt 1 = .ok (.ifCond .lt 29, 3) := by decide +kernel
theorem dX3_tableAt_4 : decode cX3_tableAt 4 = .ok (.iload_n 1, 1) := by decide +kernel
theorem dX3_tableAt_5 : decode cX3_tableAt 5 = .ok (.aload_n 0, 1) := by decide +kernel
theorem dX3_tableAt_6 : decode cX3_tableAt 6 = .ok (.getfield 21, 3) := by decide +kernel
theorem dX3_tableAt_9 : decode cX3_tableAt 9 = .ok (.if_icmp .ge 21, 3) := by decide +kernel
theorem dX3_tableAt_12 : decode cX3_tableAt 12 = .ok (.iload_n 1, 1) := by decide +kernel
theorem dX3_tableAt_13 : decode cX3_tableAt 13 = .ok (.aload_n 0, 1) := by decide +kernel
theorem dX3_tableAt_14 : decode cX3_tableAt 14 = .ok (.getfield 15, 3) := by decide +kernel
theorem dX3_tableAt_17 : decode cX3_tableAt 17 = .ok (.arraylength, 1) := by decide +kernel
theorem dX3_tableAt_18 : decode cX3_tableAt 18 = .ok (.if_icmp .ge 12, 3) := by decide +kernel
theorem dX3_tableAt_21 : decode cX3_tableAt 21 = .ok (.aload_n 0, 1) := by decide +kernel
theorem dX3_tableAt_22 : decode cX3_tableAt 22 = .ok (.getfield 15, 3) := by decide +kernel
theorem dX3_tableAt_25 : decode cX3_tableAt 25 = .ok (.iload_n 1, 1) := by decide +kernel
theorem dX3_tableAt_26 : decode cX3_tableAt 26 = .ok (.iaload, 1) := by decide +kernel
theorem dX3_tableAt_27 : decode cX3_tableAt 27 = .ok (.goto 4, 3) := by decide +kernel
theorem dX3_tableAt_30 : decode cX3_tableAt 30 = .ok (.iconst (-1), 1) := by decide +kernel
theorem dX3_tableAt_31 : decode cX3_tableAt 31 = .ok (.ireturn, 1) := by decide +kernel
abbrev M_X3_tableAt : mM := (cX3_tableAt, 2, RX3, some .int, false, 0, 0, 0, 0)
theorem gX3_tableAt : cI yX3_tableAt M_X3_tableAt 1 := ⟨(wsl_34 _ (List.mem_of_getElem? (i := 3) rfl)), (wsl_34 _ (List.mem_of_getElem? (i := 4) rfl)), (wsl_4 _ (List.mem_of_getElem? (i := 5) rfl)), (wsl_34 _ (List.mem_of_getElem? (i := 5) rfl)), by decide +kernel⟩
noncomputable def fX3_tableAt (h : hH) (a0 a1 : Int) : Option (Int) :=
  if a1 < 0 then
    some (-1)
  else
    if a1 < h a0 0 then
      if a1 < h (h a0 3) (-1) then
        (aget h (h a0 3) a1).bind fun v26 =>
        some v26
      else
        some (-1)
    else
      some (-1)
section M_X3_tableAt
variable {p : Program} {l : Launch} {e : Env} {R : Room} {s : State} {m : MethodId} {args : Array Value} {below : List Frame} {meth : Method} {c : Code} {D : va_G} {G : gG} {A : Nat → Prop} {H0 : Heap} {n0 : Int} {x : Option vV × hH} {h : hH}
set_option maxRecDepth 100000 in
set_option maxHeartbeats 4000000 in
theorem oX3_tableAt_b0 {a0 a1 : Int} {K : Int → Prop} (k0 : ∀ r, K (r) → x = (some (0, r), h)) {r : Int} (hr : fX3_tableAt h a0 a1 = some r) (hk : K r) : Wq p l e R s m args below meth c D G A H0 true n0 M_X3_tableAt x 0 0 0 [(0, (13, a0)), (1, (0, a1))] [] h := by
  unfold fX3_tableAt at hr
  refine r_iload_n dX3_tableAt_0 rfl 1 rfl (Or.inl rfl) ?_
  refine r_if_lt dX3_tableAt_1 (tgt := 30) (by decide) (fun hc => ?_) (fun hc => ?_)
  · have hr := ifp hr hc
    refine r_iconst dX3_tableAt_30 (by decide) ?_
    obtain rfl := Option.some.inj hr
    exact r_ret dX3_tableAt_31 rfl (Or.inl ⟨rfl, rfl⟩) (k0 _ hk) ⟨rfl, rfl⟩
  · have hr := ifn hr hc
    refine r_iload_n dX3_tableAt_4 rfl 1 rfl (Or.inl rfl) ?_
    refine r_aload_n dX3_tableAt_5 rfl 0 rfl (nl rfl) ?_
    refine r_get 3 0 (o := a0) (w := (0, h a0 0)) (T := TX3) (ref := "FollowingRefs$Rows") rfl (by decide) rfl (by decide) inlX3 (wsl_22 _ (List.mem_of_getElem? (i := 23) rfl)) rfl dX3_tableAt_6 rfl ?_
    refine r_icmp_ge dX3_tableAt_9 (tgt := 30) (by decide) (fun hc => ?_) (fun hc => ?_)
    · have hr := ifn hr hc
      refine r_iconst dX3_tableAt_30 (by decide) ?_
      obtain rfl := Option.some.inj hr
      exact r_ret dX3_tableAt_31 rfl (Or.inl ⟨rfl, rfl⟩) (k0 _ hk) ⟨rfl, rfl⟩
    · have hr := ifp hr hc
      refine r_iload_n dX3_tableAt_12 rfl 1 rfl (Or.inl rfl) ?_
      refine r_aload_n dX3_tableAt_13 rfl 0 rfl (nl rfl) ?_
      refine r_get 3 3 (o := a0) (w := (50, h a0 3)) (T := TX3) (ref := "FollowingRefs$Rows") rfl (by decide) rfl (by decide) inlX3 (wsl_4 _ (List.mem_of_getElem? (i := 12) rfl)) rfl dX3_tableAt_14 rfl ?_
      refine r_alen (t := 50) (by decide) (by decide) dX3_tableAt_17 ?_
      refine r_icmp_ge dX3_tableAt_18 (tgt := 30) (by decide) (fun hc => ?_) (fun hc => ?_)
      · have hr := ifn hr hc
        refine r_iconst dX3_tableAt_30 (by decide) ?_
        obtain rfl := Option.some.inj hr
        exact r_ret dX3_tableAt_31 rfl (Or.inl ⟨rfl, rfl⟩) (k0 _ hk) ⟨rfl, rfl⟩
      · have hr := ifp hr hc
        refine r_aload_n dX3_tableAt_21 rfl 0 rfl (nl rfl) ?_
        refine r_get 3 3 (o := a0) (w := (50, h a0 3)) (T := TX3) (ref := "FollowingRefs$Rows") rfl (by decide) rfl (by decide) inlX3 (wsl_4 _ (List.mem_of_getElem? (i := 12) rfl)) rfl dX3_tableAt_22 rfl ?_
        refine r_iload_n dX3_tableAt_25 rfl 1 rfl (Or.inl rfl) ?_
        obtain ⟨v26, hg26, hr⟩ := bnd hr
        refine r_iald dX3_tableAt_26 hg26 ?_
        refine r_goto dX3_tableAt_27 (tgt := 31) (by decide) ?_
        obtain rfl := Option.some.inj hr
        exact r_ret dX3_tableAt_31 rfl (Or.inl ⟨rfl, rfl⟩) (k0 _ hk) ⟨rfl, rfl⟩
end M_X3_tableAt
theorem oX3_tableAt {l : Launch} {D : va_G} {G : gG} {h : hH} {a0 a1 : Int} {r : Int} (hr : fX3_tableAt h a0 a1 = some r) : Ctr l D G true yX3_tableAt M_X3_tableAt [(13, a0), (0, a1)] h (some (0, r), h) :=
  Ctr_of (by decide) rfl (fun z => by cases z) (nl rfl) (fun {p e R s m args below meth c A H0} => by
    exact oX3_tableAt_b0 (K := fun z9 => z9 = r) (fun r9 z => by rw [z]) hr rfl)
