/-! X9_takeValue -/
theorem dX9_takeValue_0 : decode cX9_takeValue 0 = .ok (.aload_n 0, 1) := by decide +kernel
theorem dX9_takeValue_1 : decode cX9_takeValue 1 = .ok (.getfield 76, 3) := by decide +kernel
theorem dX9_takeValue_4 : decode cX9_takeValue 4 = .ok (.sipush 149, 3) := by decide +kernel
theorem dX9_takeValue_7 : decode cX9_takeValue 7 = .ok (.if_icmp .ne 9, 3) := by decide +kernel
theorem dX9_takeValue_10 : decode cX9_takeValue 10 = .ok (.aload_n 0, 1) := by decide +kernel
theorem dX9_takeValue_11 : decode cX9_takeValue 11 = .ok (.invokevirtual 65, 3) := by decide +kernel
theorem dX9_takeValue_14 : decode cX9_takeValue 14 = .ok (.iconst (-1), 1) := by decide +kernel
theorem dX9_takeValue_15 : decode cX9_takeValue 15 = .ok (.ireturn, 1) := by decide +kernel
theorem dX9_takeValue_16 : decode cX9_takeValue 16 = .ok (.aload_n 0, 1) := by decide +kernel
theorem dX9_takeValue_17 : decode cX9_takeValue 17 = .ok (.invokevirtual 104, 3) := by decide +kernel
theorem dX9_takeValue_20 : decode cX9_takeValue 20 = .ok (.ireturn, 1) := by decide +kernel
abbrev M_X9_takeValue : mM := (cX9_takeValue, 1, RX9, some .int, false, 2, 43, 0, 0)
theorem gX9_takeValue : cI yX9_takeValue M_X9_takeValue 0 := ⟨(wsl_30 _ (List.mem_of_getElem? (i := 20) rfl)), (wsl_30 _ (List.mem_of_getElem? (i := 21) rfl)), (wsl_1 _ (List.mem_of_getElem? (i := 15) rfl)), (wsl_30 _ (List.mem_of_getElem? (i := 22) rfl)), by decide +kernel⟩
noncomputable def fX9_takeValue (h : hH) (a0 : Int) : Option (Int × hH) :=
  if h a0 5 = 149 then
    (fX9_step h a0).bind fun h11 =>
    some (-1, h11)
  else
    (fX9_takeNumber h a0).bind fun q17 =>
    some (q17.1, q17.2)
section M_X9_takeValue
variable {p : Program} {l : Launch} {e : Env} {R : Room} {s : State} {m : MethodId} {args : Array Value} {below : List Frame} {meth : Method} {c : Code} {D : va_G} {G : gG} {A : Nat → Prop} {H0 : Heap} {n0 : Int} {x : Option vV × hH} {h : hH}
set_option maxRecDepth 100000 in
set_option maxHeartbeats 4000000 in
theorem oX9_takeValue_b0 {a0 : Int} {K : Int × hH → Prop} (k0 : ∀ r, K (r) → x = (some (0, r.1), r.2)) {r : Int × hH} (hr : fX9_takeValue h a0 = some r) (hk : K r) : Wq p l e R s m args below meth c D G A H0 true n0 M_X9_takeValue x 0 0 0 [(0, (19, a0))] [] h := by
  unfold fX9_takeValue at hr
  refine r_aload_n dX9_takeValue_0 rfl 0 rfl (nl rfl) ?_
  refine r_get 9 5 (o := a0) (w := (0, h a0 5)) (T := TX9) (ref := "FollowingRefs$Text") rfl (by decide) rfl (by decide) inlX9 (wsl_15 _ (List.mem_of_getElem? (i := 22) rfl)) rfl dX9_takeValue_1 rfl ?_
  refine r_sipush dX9_takeValue_4 (by decide) (by decide) ?_
  refine r_icmp_ne dX9_takeValue_7 (tgt := 16) (by decide) (fun hc => ?_) (fun hc => ?_)
  · have hr := ifn hr hc
    refine r_aload_n dX9_takeValue_16 rfl 0 rfl (nl rfl) ?_
    obtain ⟨q17, hg17, hr⟩ := bnd hr
    refine k_V (ci := 9) (o := a0) (T := TX9) (as := []) (rest := []) (X := (some (0, q17.1), q17.2)) (oX9_takeNumber hg17) gX9_takeNumber rfl (by decide) rfl (wsl_30 _ (List.mem_of_getElem? (i := 23) rfl)) rfl dX9_takeValue_17 rfl ?_
    obtain rfl := Option.some.inj hr
    exact r_ret dX9_takeValue_20 rfl (Or.inl ⟨rfl, rfl⟩) (k0 _ hk) ⟨rfl, rfl⟩
  · have hr := ifp hr hc
    refine r_aload_n dX9_takeValue_10 rfl 0 rfl (nl rfl) ?_
    obtain ⟨h11, hg11, hr⟩ := bnd hr
    refine k_V (ci := 9) (o := a0) (T := TX9) (as := []) (rest := []) (X := (none, h11)) (oX9_step hg11) gX9_step rfl (by decide) rfl (wsl_15 _ (List.mem_of_getElem? (i := 17) rfl)) rfl dX9_takeValue_11 rfl ?_
    refine r_iconst dX9_takeValue_14 (by decide) ?_
    obtain rfl := Option.some.inj hr
    exact r_ret dX9_takeValue_15 rfl (Or.inl ⟨rfl, rfl⟩) (k0 _ hk) ⟨rfl, rfl⟩
end M_X9_takeValue
theorem oX9_takeValue {l : Launch} {D : va_G} {G : gG} {h : hH} {a0 : Int} {r : Int × hH} (hr : fX9_takeValue h a0 = some r) : Ctr l D G true yX9_takeValue M_X9_takeValue [(19, a0)] h (some (0, r.1), r.2) :=
  Ctr_of (by decide) rfl (fun z => by cases z) (nl rfl) (fun {p e R s m args below meth c A H0} => by
    exact oX9_takeValue_b0 (K := fun z9 => z9 = r) (fun r9 z => by rw [z]) hr rfl)
/-! X2_readValues -/
theorem dX2_readValues_0 : decode cX2_readValues 0 = .ok (.iconst 0, 1) := by decide +kernel
theorem dX2_readValues_1 : decode cX2_readValues 1 = .ok (.istore_n 3, 1) := by decide +kernel
theorem dX2_readValues_2 : decode cX2_readValues 2 = .ok (.iload_n 3, 1) := by decide +kernel
theorem dX2_readValues_3 : decode cX2_readValues 3 = .ok (.aload_n 0, 1) := by decide +kernel
theorem dX2_readValues_4 : decode cX2_readValues 4 = .ok (.getfield 19, 3) := by decide +kernel
theorem dX2_readValues_7 : decode cX2_readValues 7 = .ok (.iload_n 2, 1) := by decide +kernel
theorem dX2_readValues_8 : decode cX2_readValues 8 = .ok (.invokevirtual 85, 3) := by decide +kernel
theorem dX2_readValues_11 : decode cX2_readValues 11 = .ok (.if_icmp .ge 36, 3) := by decide +kernel
theorem dX2_readValues_14 : decode cX2_readValues 14 = .ok (.aload_n 0, 1) := by decide +kernel
theorem dX2_readValues_15 : decode cX2_readValues 15 = .ok (.iload_n 1, 1) := by decide +kernel
theorem dX2_readValues_16 : decode cX2_readValues 16 = .ok (.iconst 3, 1) := by decide +kernel
theorem dX2_readValues_17 : decode cX2_readValues 17 = .ok (.iload_n 3, 1) := by decide +kernel
theorem dX2_readValues_18 : decode cX2_readValues 18 = .ok (.iadd, 1) := by decide +kernel
theorem dX2_readValues_19 : decode cX2_readValues 19 = .ok (.aload_n 0, 1) := by decide +kernel
theorem dX2_readValues_20 : decode cX2_readValues 20 = .ok (.getfield 15, 3) := by decide +kernel
theorem dX2_readValues_23 : decode cX2_readValues 23 = .ok (.invokevirtual 91, 3) := by decide +kernel
theorem dX2_readValues_26 : decode cX2_readValues 26 = .ok (.invokevirtual 31, 3) := by decide +kernel
theorem dX2_readValues_29 : decode cX2_readValues 29 = .ok (.aload_n 0, 1) := by decide +kernel
theorem dX2_readValues_30 : decode cX2_readValues 30 = .ok (.getfield 15, 3) := by decide +kernel
theorem dX2_readValues_33 : decode cX2_readValues 33 = .ok (.getfield 95, 3) := by decide +kernel
theorem dX2_readValues_36 : decode cX2_readValues 36 = .ok (.ifCond .eq 5, 3) := by decide +kernel
theorem dX2_readValues_39 : decode cX2_readValues 39 = .ok (.iconst 0, 1) := by decide +kernel
theorem dX2_readValues_40 : decode cX2_readValues 40 = .ok (.ireturn, 1) := by decide +kernel
theorem dX2_readValues_41 : decode cX2_readValues 41 = .ok (.iinc 3 1, 3) := by decide +kernel
theorem dX2_readValues_44 : decode cX2_readValues 44 = .ok (.goto (-42), 3) := by decide +kernel
theorem dX2_readValues_47 : decode cX2_readValues 47 = .ok (.iconst 1, 1) := by decide +kernel
theorem dX2_readValues_48 : decode cX2_readValues 48 = .ok (.ireturn, 1) := by decide +kernel
abbrev M_X2_readValues : mM := (cX2_readValues, 4, RX2, some .boolean, false, 3, 63, 0, 0)
theorem gX2_readValues : cI yX2_readValues M_X2_readValues 2 := ⟨(wsl_30 _ (List.mem_of_getElem? (i := 14) rfl)), (wsl_30 _ (List.mem_of_getElem? (i := 15) rfl)), (wsl_2 _ (List.mem_of_getElem? (i := 15) rfl)), (wsl_30 _ (List.mem_of_getElem? (i := 16) rfl)), by decide +kernel⟩
noncomputable def fX2_readValues_s2 (h0 : hH) (a0 a1 a2 : Int) : hH × Int → Option ((hH × Int) ⊕ (Int × hH)) := fun (h, l3) =>
  (fX4_width h (h a0 1) a2).bind fun r8 =>
  if l3 < r8 then
    (fX9_takeValue h (h a0 0)).bind fun q23 =>
    (fX2_setPart q23.2 a0 a1 (w32 (3 + l3)) q23.1).bind fun h26 =>
    if h26 (h26 a0 0) 8 = 0 then
      some (.inl (h26, w32 (l3 + 1)))
    else
      some (.inr ((0, h26)))
  else
    some (.inr ((1, h)))
noncomputable def fX2_readValues (h : hH) (a0 a1 a2 : Int) : Option (Int × hH) :=
  lpO (fX2_readValues_s2 h a0 a1 a2) (h, 0)
section M_X2_readValues
variable {p : Program} {l : Launch} {e : Env} {R : Room} {s : State} {m : MethodId} {args : Array Value} {below : List Frame} {meth : Method} {c : Code} {D : va_G} {G : gG} {A : Nat → Prop} {H0 : Heap} {n0 : Int} {x : Option vV × hH} {h : hH}
set_option maxRecDepth 100000 in
set_option maxHeartbeats 4000000 in
theorem oX2_readValues_s2 {h0 : hH} {a0 a1 a2 l3 : Int} {K : (hH × Int) ⊕ (Int × hH) → Prop} (k0 : ∀ r, K (.inr (r)) → x = (some (2, r.1), r.2)) (k1 : ∀ (h : hH) (l3 : Int), K (.inl (h, l3)) → Wq p l e R s m args below meth c D G A H0 true n0 M_X2_readValues x 0 0 2 [(0, (12, a0)), (1, (0, a1)), (2, (0, a2)), (3, (0, l3))] [] h) {r : (hH × Int) ⊕ (Int × hH)} (hr : fX2_readValues_s2 h0 a0 a1 a2 (h, l3) = some r) (hk : K r) : Wq p l e R s m args below meth c D G A H0 true n0 M_X2_readValues x 0 0 2 [(0, (12, a0)), (1, (0, a1)), (2, (0, a2)), (3, (0, l3))] [] h := by
  unfold fX2_readValues_s2 at hr
  refine r_iload_n dX2_readValues_2 rfl 3 rfl (Or.inl rfl) ?_
  refine r_aload_n dX2_readValues_3 rfl 0 rfl (nl rfl) ?_
  refine r_get 2 1 (o := a0) (w := (14, h a0 1)) (T := TX2) (ref := "FollowingRefs$Lines") rfl (by decide) rfl (by decide) inlX2 (wsl_5 _ (List.mem_of_getElem? (i := 15) rfl)) rfl dX2_readValues_4 rfl ?_
  refine r_iload_n dX2_readValues_7 rfl 2 rfl (Or.inl rfl) ?_
  obtain ⟨r8, hg8, hr⟩ := bnd hr
  refine k_V (ci := 4) (o := h a0 1) (T := TX4) (as := [(0, a2)]) (rest := [(0, l3)]) (X := (some (0, r8), h)) (oX4_width hg8) gX4_width rfl (by decide) rfl (wsl_30 _ (List.mem_of_getElem? (i := 18) rfl)) rfl dX2_readValues_8 rfl ?_
  refine r_icmp_ge dX2_readValues_11 (tgt := 47) (by decide) (fun hc => ?_) (fun hc => ?_)
  · have hr := ifn hr hc
    refine r_iconst dX2_readValues_47 (by decide) ?_
    refine r_scast 0 (v := (0, 1)) (w := (2, 1)) rfl cz (fun _ => Or.inr rfl) (st' := [(2, 1)]) rfl ?_
    obtain rfl := Option.some.inj hr
    exact r_ret dX2_readValues_48 rfl (Or.inr ⟨rfl, rfl⟩) (k0 _ hk) ⟨rfl, rfl⟩
  · have hr := ifp hr hc
    refine r_aload_n dX2_readValues_14 rfl 0 rfl (nl rfl) ?_
    refine r_iload_n dX2_readValues_15 rfl 1 rfl (Or.inl rfl) ?_
    refine r_iconst dX2_readValues_16 (by decide) ?_
    refine r_iload_n dX2_readValues_17 rfl 3 rfl (Or.inl rfl) ?_
    refine r_iadd dX2_readValues_18 ?_
    refine r_aload_n dX2_readValues_19 rfl 0 rfl (nl rfl) ?_
    refine r_get 2 0 (o := a0) (w := (19, h a0 0)) (T := TX2) (ref := "FollowingRefs$Lines") rfl (by decide) rfl (by decide) inlX2 (wsl_5 _ (List.mem_of_getElem? (i := 14) rfl)) rfl dX2_readValues_20 rfl ?_
    obtain ⟨q23, hg23, hr⟩ := bnd hr
    refine k_V (ci := 9) (o := h a0 0) (T := TX9) (as := []) (rest := [(0, w32 (3 + l3)), (0, a1), (12, a0)]) (X := (some (0, q23.1), q23.2)) (oX9_takeValue hg23) gX9_takeValue rfl (by decide) rfl (wsl_30 _ (List.mem_of_getElem? (i := 19) rfl)) rfl dX2_readValues_23 rfl ?_
    obtain ⟨h26, hg26, hr⟩ := bnd hr
    refine k_V (ci := 2) (o := a0) (T := TX2) (as := [(0, a1), (0, w32 (3 + l3)), (0, q23.1)]) (rest := []) (X := (none, h26)) (oX2_setPart hg26) gX2_setPart rfl (by decide) rfl (wsl_30 _ (List.mem_of_getElem? (i := 9) rfl)) rfl dX2_readValues_26 rfl ?_
    refine r_aload_n dX2_readValues_29 rfl 0 rfl (nl rfl) ?_
    refine r_get 2 0 (o := a0) (w := (19, h26 a0 0)) (T := TX2) (ref := "FollowingRefs$Lines") rfl (by decide) rfl (by decide) inlX2 (wsl_5 _ (List.mem_of_getElem? (i := 14) rfl)) rfl dX2_readValues_30 rfl ?_
    refine r_get 9 8 (o := h26 a0 0) (w := (0, h26 (h26 a0 0) 8)) (T := TX9) (ref := "FollowingRefs$Text") rfl (by decide) rfl (by decide) inlX9 (wsl_30 _ (List.mem_of_getElem? (i := 17) rfl)) rfl dX2_readValues_33 rfl ?_
    refine r_if_eq dX2_readValues_36 (tgt := 41) (by decide) (fun hc => ?_) (fun hc => ?_)
    · have hr := ifp hr hc
      refine r_iinc (k := 3) (v := l3) dX2_readValues_41 rfl (by decide) (lv' := [(3, (0, w32 (l3 + 1))), (0, (12, a0)), (1, (0, a1)), (2, (0, a2))]) rfl ?_
      refine r_goto dX2_readValues_44 (tgt := 2) (by decide) ?_
      refine r_sub [1, 2, 3, 0] (lv' := [(0, (12, a0)), (1, (0, a1)), (2, (0, a2)), (3, (0, w32 (l3 + 1)))]) rfl ?_
      obtain rfl := Option.some.inj hr
      exact k1 _ _ hk
    · have hr := ifn hr hc
      refine r_iconst dX2_readValues_39 (by decide) ?_
      refine r_scast 0 (v := (0, 0)) (w := (2, 0)) rfl cz (fun _ => Or.inl rfl) (st' := [(2, 0)]) rfl ?_
      obtain rfl := Option.some.inj hr
      exact r_ret dX2_readValues_40 rfl (Or.inr ⟨rfl, rfl⟩) (k0 _ hk) ⟨rfl, rfl⟩
set_option maxRecDepth 100000 in
set_option maxHeartbeats 4000000 in
theorem oX2_readValues_b0 {a0 a1 a2 : Int} {K : Int × hH → Prop} (k0 : ∀ r, K (r) → x = (some (2, r.1), r.2)) {r : Int × hH} (hr : fX2_readValues h a0 a1 a2 = some r) (hk : K r) : Wq p l e R s m args below meth c D G A H0 true n0 M_X2_readValues x 0 0 0 [(0, (12, a0)), (1, (0, a1)), (2, (0, a2))] [] h := by
  unfold fX2_readValues at hr
  refine r_iconst dX2_readValues_0 (by decide) ?_
  refine r_istore_n dX2_readValues_1 rfl (Or.inl rfl) (by decide) (lv' := [(3, (0, 0)), (0, (12, a0)), (1, (0, a1)), (2, (0, a2))]) rfl ?_
  refine r_sub [1, 2, 3, 0] (lv' := [(0, (12, a0)), (1, (0, a1)), (2, (0, a2)), (3, (0, 0))]) rfl ?_
  exact lp_ok (w := fun (q : hH × Int) => Wq p l e R s m args below meth c D G A H0 true n0 M_X2_readValues x 0 0 2 [(0, (12, a0)), (1, (0, a1)), (2, (0, a2)), (3, (0, q.2))] [] (q.1)) (K := K) (fun ⟨q0, q1⟩ r h1 h2 => oX2_readValues_s2 (K := Sum.elim (fun (q : hH × Int) => Wq p l e R s m args below meth c D G A H0 true n0 M_X2_readValues x 0 0 2 [(0, (12, a0)), (1, (0, a1)), (2, (0, a2)), (3, (0, q.2))] [] (q.1)) (K)) (fun r z => k0 r z) (fun _ _ z => z) h1 h2) hr hk
end M_X2_readValues
theorem oX2_readValues {l : Launch} {D : va_G} {G : gG} {h : hH} {a0 a1 a2 : Int} {r : Int × hH} (hr : fX2_readValues h a0 a1 a2 = some r) : Ctr l D G true yX2_readValues M_X2_readValues [(12, a0), (0, a1), (0, a2)] h (some (2, r.1), r.2) :=
  Ctr_of (by decide) rfl (fun z => by cases z) (nl rfl) (fun {p e R s m args below meth c A H0} => by
    exact oX2_readValues_b0 (K := fun z9 => z9 = r) (fun r9 z => by rw [z]) hr rfl)
/-! X9_option -/
theorem dX9_option_0 : decode cX9_option 0 = .ok (.aload_n 0, 1) := by decide +kernel
theorem dX9_option_1 : decode cX9_option 1 = .ok (.getfield 76, 3) := by decide +kernel
theorem dX9_option_4 : decode cX9_option 4 = .ok (.iload_n 1, 1) := by decide +kernel
theorem dX9_option_5 : decode cX9_option 5 = .ok (.if_icmp .eq 5, 3) := by decide +kernel
theorem dX9_option_8 : decode cX9_option 8 = .ok (.iconst 0, 1) := by decide +kernel
theorem dX9_option_9 : decode cX9_option 9 = .ok (.ireturn, 1) := by decide +kernel
theorem dX9_option_10 : decode cX9_option 10 = .ok (.aload_n 0, 1) := by decide +kernel
theorem dX9_option_11 : decode cX9_option 11 = .ok (.invokevirtual 65, 3) := by decide +kernel
theorem dX9_option_14 : decode cX9_option 14 = .ok (.iconst 1, 1) := by decide +kernel
theorem dX9_option_15 : decode cX9_option 15 = .ok (.ireturn, 1) := by decide +kernel
abbrev M_X9_option : mM := (cX9_option, 2, RX9, some .boolean, false, 1, 22, 0, 0)
theorem gX9_option : cI yX9_option M_X9_option 1 := ⟨(wsl_20 _ (List.mem_of_getElem? (i := 10) rfl)), (wsl_20 _ (List.mem_of_getElem? (i := 11) rfl)), (wsl_1 _ (List.mem_of_getElem? (i := 15) rfl)), (wsl_20 _ (List.mem_of_getElem? (i := 12) rfl)), by decide +kernel⟩
noncomputable def fX9_option (h : hH) (a0 a1 : Int) : Option (Int × hH) :=
  if h a0 5 = a1 then
    (fX9_step h a0).bind fun h11 =>
    some (1, h11)
  else
    some (0, h)
section M_X9_option
variable {p : Program} {l : Launch} {e : Env} {R : Room} {s : State} {m : MethodId} {args : Array Value} {below : List Frame} {meth : Method} {c : Code} {D : va_G} {G : gG} {A : Nat → Prop} {H0 : Heap} {n0 : Int} {x : Option vV × hH} {h : hH}
set_option maxRecDepth 100000 in
set_option maxHeartbeats 4000000 in
theorem oX9_option_b0 {a0 a1 : Int} {K : Int × hH → Prop} (k0 : ∀ r, K (r) → x = (some (2, r.1), r.2)) {r : Int × hH} (hr : fX9_option h a0 a1 = some r) (hk : K r) : Wq p l e R s m args below meth c D G A H0 true n0 M_X9_option x 0 0 0 [(0, (19, a0)), (1, (0, a1))] [] h := by
  unfold fX9_option at hr
  refine r_aload_n dX9_option_0 rfl 0 rfl (nl rfl) ?_
  refine r_get 9 5 (o := a0) (w := (0, h a0 5)) (T := TX9) (ref := "FollowingRefs$Text") rfl (by decide) rfl (by decide) inlX9 (wsl_15 _ (List.mem_of_getElem? (i := 22) rfl)) rfl dX9_option_1 rfl ?_
  refine r_iload_n dX9_option_4 rfl 1 rfl (Or.inl rfl) ?_
  refine r_icmp_eq dX9_option_5 (tgt := 10) (by decide) (fun hc => ?_) (fun hc => ?_)
  · have hr := ifp hr hc
    refine r_aload_n dX9_option_10 rfl 0 rfl (nl rfl) ?_
    obtain ⟨h11, hg11, hr⟩ := bnd hr
    refine k_V (ci := 9) (o := a0) (T := TX9) (as := []) (rest := []) (X := (none, h11)) (oX9_step hg11) gX9_step rfl (by decide) rfl (wsl_15 _ (List.mem_of_getElem? (i := 17) rfl)) rfl dX9_option_11 rfl ?_
    refine r_iconst dX9_option_14 (by decide) ?_
    refine r_scast 0 (v := (0, 1)) (w := (2, 1)) rfl cz (fun _ => Or.inr rfl) (st' := [(2, 1)]) rfl ?_
    obtain rfl := Option.some.inj hr
    exact r_ret dX9_option_15 rfl (Or.inr ⟨rfl, rfl⟩) (k0 _ hk) ⟨rfl, rfl⟩
  · have hr := ifn hr hc
    refine r_iconst dX9_option_8 (by decide) ?_
    refine r_scast 0 (v := (0, 0)) (w := (2, 0)) rfl cz (fun _ => Or.inl rfl) (st' := [(2, 0)]) rfl ?_
    obtain rfl := Option.some.inj hr
    exact r_ret dX9_option_9 rfl (Or.inr ⟨rfl, rfl⟩) (k0 _ hk) ⟨rfl, rfl⟩
end M_X9_option
theorem oX9_option {l : Launch} {D : va_G} {G : gG} {h : hH} {a0 a1 : Int} {r : Int × hH} (hr : fX9_option h a0 a1 = some r) : Ctr l D G true yX9_option M_X9_option [(19, a0), (0, a1)] h (some (2, r.1), r.2) :=
  Ctr_of (by decide) rfl (fun z => by cases z) (nl rfl) (fun {p e R s m args below meth c A H0} => by
    exact oX9_option_b0 (K := fun z9 => z9 = r) (fun r9 z => by rw [z]) hr rfl)
/-! X4_colNamed -/
theorem dX4_colNamed_0 : decode cX4_colNamed 0 = .ok (.iload_n 1, 1) := by decide +kernel
theorem dX4_colNamed_1 : decode cX4_colNamed 1 = .ok (.ifCond .lt 21, 3) := by decide +kernel
theorem dX4_colNamed_4 : decode cX4_colNamed 4 = .ok (.iload_n 1, 1) := by decide +kernel
theorem dX4_colNamed_5 : decode cX4_colNamed 5 = .ok (.aload_n 0, 1) := by decide +kernel
theorem dX4_colNamed_6 : decode cX4_colNamed 6 = .ok (.getfield 15, 3) := by decide +kernel
theorem dX4_colNamed_9 : decode cX4_colNamed 9 = .ok (.arraylength, 1) := by decide +kernel
theorem dX4_colNamed_10 : decode cX4_colNamed 10 = .ok (.if_icmp .ge 12, 3) := by decide +kernel
theorem dX4_colNamed_13 : decode cX4_colNamed 13 = .ok (.aload_n 0, 1) := by decide +kernel
theorem dX4_colNamed_14 : decode cX4_colNamed 14 = .ok (.getfield 15, 3) := by decide +kernel
theorem dX4_colNamed_17 : decode cX4_colNamed 17 = .ok (.iload_n 1, 1) := by decide +kernel
theorem dX4_colNamed_18 : decode cX4_colNamed 18 = .ok (.iaload, 1) := by decide +kernel
theorem dX4_colNamed_19 : decode cX4_colNamed 19 = .ok (.goto 4, 3) := by decide +kernel
theorem dX4_colNamed_22 : decode cX4_colNamed 22 = .ok (.iconst 0, 1) := by decide +kernel
theorem dX4_colNamed_23 : decode cX4_colNamed 23 = .ok (.istore 4, 2) := by decide +kernel
theorem dX4_colNamed_25 : decode cX4_colNamed 25 = .ok (.iconst 0, 1) := by decide +kernel
theorem dX4_colNamed_26 : decode cX4_colNamed 26 = .ok (.istore 5, 2) := by decide +kernel
theorem dX4_colNamed_28 : decode cX4_colNamed 28 = .ok (.iload 5, 2) := by decide +kernel
theorem dX4_colNamed_30 : decode cX4_colNamed 30 = .ok (.iload 4, 2) := by decide +kernel
theorem dX4_colNamed_32 : decode cX4_colNamed 32 = .ok (.if_icmp .ge 47, 3) := by decide +kernel
theorem dX4_colNamed_35 : decode cX4_colNamed 35 = .ok (.iload_n 1, 1) := by decide +kernel
theorem dX4_colNamed_36 : decode cX4_colNamed 36 = .ok (.iconst 4, 1) := by decide +kernel
theorem dX4_colNamed_37 : decode cX4_colNamed 37 = .ok (.imul, 1) := by decide +kernel
theorem dX4_colNamed_38 : decode cX4_colNamed 38 = .ok (.iload 5, 2) := by decide +kernel
theorem dX4_colNamed_40 : decode cX4_colNamed 40 = .ok (.iadd, 1) := by decide +kernel
theorem dX4_colNamed_41 : decode cX4_colNamed 41 = .ok (.istore 6, 2) := by decide +kernel
theorem dX4_colNamed_43 : decode cX4_colNamed 43 = .ok (.iload 6, 2) := by decide +kernel
theorem dX4_colNamed_45 : decode cX4_colNamed 45 = .ok (.ifCond .lt 28, 3) := by decide +kernel
theorem dX4_colNamed_48 : decode cX4_colNamed 48 = .ok (.iload 6, 2) := by decide +kernel
theorem dX4_colNamed_50 : decode cX4_colNamed 50 = .ok (.aload_n 0, 1) := by decide +kernel
theorem dX4_colNamed_51 : decode cX4_colNamed 51 = .ok (.getfield 19, 3) := by decide +kernel
theorem dX4_colNamed_54 : decode cX4_colNamed 54 = .ok (.arraylength, 1) := by decide +kernel
theorem dX4_colNamed_55 : decode cX4_colNamed 55 = .ok (.if_icmp .ge 18, 3) := by decide +kernel
theorem dX4_colNamed_58 : decode cX4_colNamed 58 = .ok (.aload_n 0, 1) := by decide +kernel
theorem dX4_colNamed_59 : decode cX4_colNamed 59 = .ok (.getfield 19, 3) := by decide +kernel
theorem dX4_colNamed_62 : decode cX4_colNamed 62 = .ok (.iload 6, 2) := by decide +kernel
theorem dX4_colNamed_64 : decode cX4_colNamed 64 = .ok (.laload, 1) := by decide +kernel
theorem dX4_colNamed_65 : decode cX4_colNamed 65 = .ok (.lload_n 2, 1) := by decide +kernel
theorem dX4_colNamed_66 : decode cX4_colNamed 66 = .ok (.lcmp, 1) := by decide +kernel
theorem dX4_colNamed_67 : decode cX4_colNamed 67 = .ok (.ifCond .ne 6, 3) := by decide +kernel
theorem dX4_colNamed_70 : decode cX4_colNamed 70 = .ok (.iload 5, 2) := by decide +kernel
theorem dX4_colNamed_72 : decode cX4_colNamed 72 = .ok (.ireturn, 1) := by decide +kernel
theorem dX4_colNamed_73 : decode cX4_colNamed 73 = .ok (.iinc 5 1, 3) := by decide +kernel
theorem dX4_colNamed_76 : decode cX4_colNamed 76 = .ok (.goto (-48), 3) := by decide +kernel
theorem dX4_colNamed_79 : decode cX4_colNamed 79 = .ok (.iconst (-1), 1) := by decide +kernel
theorem dX4_colNamed_80 : decode cX4_colNamed 80 = .ok (.ireturn, 1) := by decide +kernel
abbrev M_X4_colNamed : mM := (cX4_colNamed, 7, RX4, some .int, false, 0, 0, 0, 0)
theorem gX4_colNamed : cI yX4_colNamed M_X4_colNamed 2 := ⟨(wsl_17 _ (List.mem_of_getElem? (i := 11) rfl)), (wsl_17 _ (List.mem_of_getElem? (i := 12) rfl)), (wsl_1 _ (List.mem_of_getElem? (i := 19) rfl)), (wsl_17 _ (List.mem_of_getElem? (i := 13) rfl)), by decide +kernel⟩
noncomputable def fX4_colNamed_s28 (h : hH) (a0 a1 a2 l4 : Int) : Int → Option ((Int) ⊕ (Int)) := fun l5 =>
  if l5 < l4 then
    if w32 ((w32 (a1 * 4)) + l5) < 0 then
      some (.inl (w32 (l5 + 1)))
    else
      if w32 ((w32 (a1 * 4)) + l5) < h (h a0 6) (-1) then
        (aget h (h a0 6) (w32 ((w32 (a1 * 4)) + l5))).bind fun v64 =>
        if lcmD v64 a2 = 0 then
          some (.inr (l5))
        else
          some (.inl (w32 (l5 + 1)))
      else
        some (.inl (w32 (l5 + 1)))
  else
    some (.inr (-1))
noncomputable def fX4_colNamed_b23 (h : hH) (a0 a1 a2 s0 : Int) : Option (Int) :=
  lpO (fX4_colNamed_s28 h a0 a1 a2 s0) 0
noncomputable def fX4_colNamed_b22 (h : hH) (a0 a1 a2 : Int) : Option (Int) :=
  fX4_colNamed_b23 h a0 a1 a2 0
noncomputable def fX4_colNamed (h : hH) (a0 a1 a2 : Int) : Option (Int) :=
  if a1 < 0 then
    fX4_colNamed_b22 h a0 a1 a2
  else
    if a1 < h (h a0 5) (-1) then
      (aget h (h a0 5) a1).bind fun v18 =>
      fX4_colNamed_b23 h a0 a1 a2 v18
    else
      fX4_colNamed_b22 h a0 a1 a2
section M_X4_colNamed
variable {p : Program} {l : Launch} {e : Env} {R : Room} {s : State} {m : MethodId} {args : Array Value} {below : List Frame} {meth : Method} {c : Code} {D : va_G} {G : gG} {A : Nat → Prop} {H0 : Heap} {n0 : Int} {x : Option vV × hH} {h : hH}
set_option maxRecDepth 100000 in
set_option maxHeartbeats 4000000 in
theorem oX4_colNamed_s28 {a0 a1 a2 l4 l5 : Int} {K : (Int) ⊕ (Int) → Prop} (k0 : ∀ r, K (.inr (r)) → x = (some (0, r), h)) (k1 : ∀ (l5 : Int), K (.inl l5) → Wq p l e R s m args below meth c D G A H0 true n0 M_X4_colNamed x 0 0 28 [(0, (14, a0)), (1, (0, a1)), (2, (1, a2)), (4, (0, l4)), (5, (0, l5))] [] h) {r : (Int) ⊕ (Int)} (hr : fX4_colNamed_s28 h a0 a1 a2 l4 l5 = some r) (hk : K r) : Wq p l e R s m args below meth c D G A H0 true n0 M_X4_colNamed x 0 0 28 [(0, (14, a0)), (1, (0, a1)), (2, (1, a2)), (4, (0, l4)), (5, (0, l5))] [] h := by
  unfold fX4_colNamed_s28 at hr
  refine r_iload dX4_colNamed_28 4 rfl (Or.inl rfl) ?_
  refine r_iload dX4_colNamed_30 3 rfl (Or.inl rfl) ?_
  refine r_icmp_ge dX4_colNamed_32 (tgt := 79) (by decide) (fun hc => ?_) (fun hc => ?_)
  · have hr := ifn hr hc
    refine r_iconst dX4_colNamed_79 (by decide) ?_
    obtain rfl := Option.some.inj hr
    exact r_ret dX4_colNamed_80 rfl (Or.inl ⟨rfl, rfl⟩) (k0 _ hk) ⟨rfl, rfl⟩
  · have hr := ifp hr hc
    refine r_iload_n dX4_colNamed_35 rfl 1 rfl (Or.inl rfl) ?_
    refine r_iconst dX4_colNamed_36 (by decide) ?_
    refine r_imul dX4_colNamed_37 ?_
    refine r_iload dX4_colNamed_38 4 rfl (Or.inl rfl) ?_
    refine r_iadd dX4_colNamed_40 ?_
    refine r_istore dX4_colNamed_41 (Or.inl rfl) (by decide) (lv' := [(6, (0, w32 ((w32 (a1 * 4)) + l5))), (0, (14, a0)), (1, (0, a1)), (2, (1, a2)), (4, (0, l4)), (5, (0, l5))]) rfl ?_
    refine r_iload dX4_colNamed_43 0 rfl (Or.inl rfl) ?_
    refine r_if_lt dX4_colNamed_45 (tgt := 73) (by decide) (fun hc => ?_) (fun hc => ?_)
    · have hr := ifp hr hc
      refine r_iinc (k := 5) (v := l5) dX4_colNamed_73 rfl (by decide) (lv' := [(5, (0, w32 (l5 + 1))), (6, (0, w32 ((w32 (a1 * 4)) + l5))), (0, (14, a0)), (1, (0, a1)), (2, (1, a2)), (4, (0, l4))]) rfl ?_
      refine r_goto dX4_colNamed_76 (tgt := 28) (by decide) ?_
      refine r_sub [2, 3, 4, 5, 0] (lv' := [(0, (14, a0)), (1, (0, a1)), (2, (1, a2)), (4, (0, l4)), (5, (0, w32 (l5 + 1)))]) rfl ?_
      obtain rfl := Option.some.inj hr
      exact k1 _ hk
    · have hr := ifn hr hc
      refine r_iload dX4_colNamed_48 0 rfl (Or.inl rfl) ?_
      refine r_aload_n dX4_colNamed_50 rfl 1 rfl (nl rfl) ?_
      refine r_get 4 6 (o := a0) (w := (51, h a0 6)) (T := TX4) (ref := "FollowingRefs$Schema") rfl (by decide) rfl (by decide) inlX4 (wsl_3 _ (List.mem_of_getElem? (i := 18) rfl)) rfl dX4_colNamed_51 rfl ?_
      refine r_alen (t := 51) (by decide) (by decide) dX4_colNamed_54 ?_
      refine r_icmp_ge dX4_colNamed_55 (tgt := 73) (by decide) (fun hc => ?_) (fun hc => ?_)
      · have hr := ifn hr hc
        refine r_iinc (k := 5) (v := l5) dX4_colNamed_73 rfl (by decide) (lv' := [(5, (0, w32 (l5 + 1))), (6, (0, w32 ((w32 (a1 * 4)) + l5))), (0, (14, a0)), (1, (0, a1)), (2, (1, a2)), (4, (0, l4))]) rfl ?_
        refine r_goto dX4_colNamed_76 (tgt := 28) (by decide) ?_
        refine r_sub [2, 3, 4, 5, 0] (lv' := [(0, (14, a0)), (1, (0, a1)), (2, (1, a2)), (4, (0, l4)), (5, (0, w32 (l5 + 1)))]) rfl ?_
        obtain rfl := Option.some.inj hr
        exact k1 _ hk
      · have hr := ifp hr hc
        refine r_aload_n dX4_colNamed_58 rfl 1 rfl (nl rfl) ?_
        refine r_get 4 6 (o := a0) (w := (51, h a0 6)) (T := TX4) (ref := "FollowingRefs$Schema") rfl (by decide) rfl (by decide) inlX4 (wsl_3 _ (List.mem_of_getElem? (i := 18) rfl)) rfl dX4_colNamed_59 rfl ?_
        refine r_iload dX4_colNamed_62 0 rfl (Or.inl rfl) ?_
        obtain ⟨v64, hg64, hr⟩ := bnd hr
        refine r_lald dX4_colNamed_64 hg64 ?_
        refine r_lload_n dX4_colNamed_65 rfl 3 rfl ?_
        refine r_lcmp dX4_colNamed_66 ?_
        refine r_if_ne dX4_colNamed_67 (tgt := 73) (by decide) (fun hc => ?_) (fun hc => ?_)
        · have hr := ifn hr hc
          refine r_iinc (k := 5) (v := l5) dX4_colNamed_73 rfl (by decide) (lv' := [(5, (0, w32 (l5 + 1))), (6, (0, w32 ((w32 (a1 * 4)) + l5))), (0, (14, a0)), (1, (0, a1)), (2, (1, a2)), (4, (0, l4))]) rfl ?_
          refine r_goto dX4_colNamed_76 (tgt := 28) (by decide) ?_
          refine r_sub [2, 3, 4, 5, 0] (lv' := [(0, (14, a0)), (1, (0, a1)), (2, (1, a2)), (4, (0, l4)), (5, (0, w32 (l5 + 1)))]) rfl ?_
          obtain rfl := Option.some.inj hr
          exact k1 _ hk
        · have hr := ifp hr hc
          refine r_iload dX4_colNamed_70 5 rfl (Or.inl rfl) ?_
          obtain rfl := Option.some.inj hr
          exact r_ret dX4_colNamed_72 rfl (Or.inl ⟨rfl, rfl⟩) (k0 _ hk) ⟨rfl, rfl⟩
set_option maxRecDepth 100000 in
set_option maxHeartbeats 4000000 in
theorem oX4_colNamed_b23 {a0 a1 a2 s0 : Int} {K : Int → Prop} (k0 : ∀ r, K (r) → x = (some (0, r), h)) {r : Int} (hr : fX4_colNamed_b23 h a0 a1 a2 s0 = some r) (hk : K r) : Wq p l e R s m args below meth c D G A H0 true n0 M_X4_colNamed x 0 0 23 [(0, (14, a0)), (1, (0, a1)), (2, (1, a2))] [(0, s0)] h := by
  unfold fX4_colNamed_b23 at hr
  refine r_istore dX4_colNamed_23 (Or.inl rfl) (by decide) (lv' := [(4, (0, s0)), (0, (14, a0)), (1, (0, a1)), (2, (1, a2))]) rfl ?_
  refine r_iconst dX4_colNamed_25 (by decide) ?_
  refine r_istore dX4_colNamed_26 (Or.inl rfl) (by decide) (lv' := [(5, (0, 0)), (4, (0, s0)), (0, (14, a0)), (1, (0, a1)), (2, (1, a2))]) rfl ?_
  refine r_sub [2, 3, 4, 1, 0] (lv' := [(0, (14, a0)), (1, (0, a1)), (2, (1, a2)), (4, (0, s0)), (5, (0, 0))]) rfl ?_
  exact lp_ok (w := fun (q : Int) => Wq p l e R s m args below meth c D G A H0 true n0 M_X4_colNamed x 0 0 28 [(0, (14, a0)), (1, (0, a1)), (2, (1, a2)), (4, (0, s0)), (5, (0, q))] [] (h)) (K := K) (fun q r h1 h2 => oX4_colNamed_s28 (K := Sum.elim (fun (q : Int) => Wq p l e R s m args below meth c D G A H0 true n0 M_X4_colNamed x 0 0 28 [(0, (14, a0)), (1, (0, a1)), (2, (1, a2)), (4, (0, s0)), (5, (0, q))] [] (h)) (K)) (fun r z => k0 r z) (fun _ z => z) h1 h2) hr hk
set_option maxRecDepth 100000 in
set_option maxHeartbeats 4000000 in
theorem oX4_colNamed_b22 {a0 a1 a2 : Int} {K : Int → Prop} (k0 : ∀ r, K (r) → x = (some (0, r), h)) {r : Int} (hr : fX4_colNamed_b22 h a0 a1 a2 = some r) (hk : K r) : Wq p l e R s m args below meth c D G A H0 true n0 M_X4_colNamed x 0 0 22 [(0, (14, a0)), (1, (0, a1)), (2, (1, a2))] [] h := by
  unfold fX4_colNamed_b22 at hr
  refine r_iconst dX4_colNamed_22 (by decide) ?_
  exact oX4_colNamed_b23 (K := K) (fun r z => k0 r z) hr hk
set_option maxRecDepth 100000 in
set_option maxHeartbeats 4000000 in
theorem oX4_colNamed_b0 {a0 a1 a2 : Int} {K : Int → Prop} (k0 : ∀ r, K (r) → x = (some (0, r), h)) {r : Int} (hr : fX4_colNamed h a0 a1 a2 = some r) (hk : K r) : Wq p l e R s m args below meth c D G A H0 true n0 M_X4_colNamed x 0 0 0 [(0, (14, a0)), (1, (0, a1)), (2, (1, a2))] [] h := by
  unfold fX4_colNamed at hr
  refine r_iload_n dX4_colNamed_0 rfl 1 rfl (Or.inl rfl) ?_
  refine r_if_lt dX4_colNamed_1 (tgt := 22) (by decide) (fun hc => ?_) (fun hc => ?_)
  · have hr := ifp hr hc
    exact oX4_colNamed_b22 (K := K) (fun r z => k0 r z) hr hk
  · have hr := ifn hr hc
    refine r_iload_n dX4_colNamed_4 rfl 1 rfl (Or.inl rfl) ?_
    refine r_aload_n dX4_colNamed_5 rfl 0 rfl (nl rfl) ?_
    refine r_get 4 5 (o := a0) (w := (50, h a0 5)) (T := TX4) (ref := "FollowingRefs$Schema") rfl (by decide) rfl (by decide) inlX4 (wsl_3 _ (List.mem_of_getElem? (i := 17) rfl)) rfl dX4_colNamed_6 rfl ?_
    refine r_alen (t := 50) (by decide) (by decide) dX4_colNamed_9 ?_
    refine r_icmp_ge dX4_colNamed_10 (tgt := 22) (by decide) (fun hc => ?_) (fun hc => ?_)
    · have hr := ifn hr hc
      exact oX4_colNamed_b22 (K := K) (fun r z => k0 r z) hr hk
    · have hr := ifp hr hc
      refine r_aload_n dX4_colNamed_13 rfl 0 rfl (nl rfl) ?_
      refine r_get 4 5 (o := a0) (w := (50, h a0 5)) (T := TX4) (ref := "FollowingRefs$Schema") rfl (by decide) rfl (by decide) inlX4 (wsl_3 _ (List.mem_of_getElem? (i := 17) rfl)) rfl dX4_colNamed_14 rfl ?_
      refine r_iload_n dX4_colNamed_17 rfl 1 rfl (Or.inl rfl) ?_
      obtain ⟨v18, hg18, hr⟩ := bnd hr
      refine r_iald dX4_colNamed_18 hg18 ?_
      refine r_goto dX4_colNamed_19 (tgt := 23) (by decide) ?_
      exact oX4_colNamed_b23 (K := K) (fun r z => k0 r z) hr hk
end M_X4_colNamed
theorem oX4_colNamed {l : Launch} {D : va_G} {G : gG} {h : hH} {a0 a1 a2 : Int} {r : Int} (hr : fX4_colNamed h a0 a1 a2 = some r) : Ctr l D G true yX4_colNamed M_X4_colNamed [(14, a0), (0, a1), (1, a2)] h (some (0, r), h) :=
  Ctr_of (by decide) rfl (fun z => by cases z) (nl rfl) (fun {p e R s m args below meth c A H0} => by
    exact oX4_colNamed_b0 (K := fun z9 => z9 = r) (fun r9 z => by rw [z]) hr rfl)
/-! X9_colHere -/
theorem dX9_colHere_0 : decode cX9_colHere 0 = .ok (.aload_n 0, 1) := by decide +kernel
theorem dX9_colHere_1 : decode cX9_colHere 1 = .ok (.getfield 76, 3) := by decide +kernel
theorem dX9_colHere_4 : decode cX9_colHere 4 = .ok (.iconst 4, 1) := by decide +kernel
theorem dX9_colHere_5 : decode cX9_colHere 5 = .ok (.if_icmp .eq 11, 3) := by decide +kernel
theorem dX9_colHere_8 : decode cX9_colHere 8 = .ok (.aload_n 0, 1) := by decide +kernel
theorem dX9_colHere_9 : decode cX9_colHere 9 = .ok (.iconst 1, 1) := by decide +kernel
theorem dX9_colHere_10 : decode cX9_colHere 10 = .ok (.invokevirtual 99, 3) := by decide +kernel
theorem dX9_colHere_13 : decode cX9_colHere 13 = .ok (.pop, 1) := by decide +kernel
theorem dX9_colHere_14 : decode cX9_colHere 14 = .ok (.iconst (-1), 1) := by decide +kernel
theorem dX9_colHere_15 : decode cX9_colHere 15 = .ok (.ireturn, 1) := by decide +kernel
theorem dX9_colHere_16 : decode cX9_colHere 16 = .ok (.aload_n 1, 1) := by decide +kernel
theorem dX9_colHere_17 : decode cX9_colHere 17 = .ok (.iload_n 2, 1) := by decide +kernel
theorem dX9_colHere_18 : decode cX9_colHere 18 = .ok (.aload_n 0, 1) := by decide +kernel
theorem dX9_colHere_19 : decode cX9_colHere 19 = .ok (.getfield 84, 3) := by decide +kernel
theorem dX9_colHere_22 : decode cX9_colHere 22 = .ok (.invokevirtual 112, 3) := by decide +kernel
theorem dX9_colHere_25 : decode cX9_colHere 25 = .ok (.istore 4, 2) := by decide +kernel
theorem dX9_colHere_27 : decode cX9_colHere 27 = .ok (.iload 4, 2) := by decide +kernel
theorem dX9_colHere_29 : decode cX9_colHere 29 = .ok (.iconst (-1), 1) := by decide +kernel
theorem dX9_colHere_30 : decode cX9_colHere 30 = .ok (.if_icmp .eq 9, 3) := by decide +kernel
theorem dX9_colHere_33 : decode cX9_colHere 33 = .ok (.iload 4, 2) := by decide +kernel
theorem dX9_colHere_35 : decode cX9_colHere 35 = .ok (.iload_n 3, 1) := by decide +kernel
theorem dX9_colHere_36 : decode cX9_colHere 36 = .ok (.if_icmp .ne 11, 3) := by decide +kernel
theorem dX9_colHere_39 : decode cX9_colHere 39 = .ok (.aload_n 0, 1) := by decide +kernel
theorem dX9_colHere_40 : decode cX9_colHere 40 = .ok (.iconst 3, 1) := by decide +kernel
theorem dX9_colHere_41 : decode cX9_colHere 41 = .ok (.invokevirtual 99, 3) := by decide +kernel
theorem dX9_colHere_44 : decode cX9_colHere 44 = .ok (.pop, 1) := by decide +kernel
theorem dX9_colHere_45 : decode cX9_colHere 45 = .ok (.iconst (-1), 1) := by decide +kernel
theorem dX9_colHere_46 : decode cX9_colHere 46 = .ok (.ireturn, 1) := by decide +kernel
theorem dX9_colHere_47 : decode cX9_colHere 47 = .ok (.iload 4, 2) := by decide +kernel
theorem dX9_colHere_49 : decode cX9_colHere 49 = .ok (.ireturn, 1) := by decide +kernel
abbrev M_X9_colHere : mM := (cX9_colHere, 5, RX9, some .int, false, 1, 26, 0, 0)
theorem gX9_colHere : cI yX9_colHere M_X9_colHere 3 := ⟨(wsl_18 _ (List.mem_of_getElem? (i := 21) rfl)), (wsl_18 _ (List.mem_of_getElem? (i := 22) rfl)), (wsl_1 _ (List.mem_of_getElem? (i := 15) rfl)), (wsl_18 _ (List.mem_of_getElem? (i := 23) rfl)), by decide +kernel⟩
noncomputable def fX9_colHere_b39 (h : hH) (a0 : Int) : Option (Int × hH) :=
  (fX9_fail h a0 3).bind fun q41 =>
  some (-1, q41.2)
noncomputable def fX9_colHere (h : hH) (a0 a1 a2 a3 : Int) : Option (Int × hH) :=
  if h a0 5 = 4 then
    (fX4_colNamed h a1 a2 (h a0 7)).bind fun r22 =>
    if r22 = -1 then
      fX9_colHere_b39 h a0
    else
      if r22 = a3 then
        fX9_colHere_b39 h a0
      else
        some (r22, h)
  else
    (fX9_fail h a0 1).bind fun q10 =>
    some (-1, q10.2)
section M_X9_colHere
variable {p : Program} {l : Launch} {e : Env} {R : Room} {s : State} {m : MethodId} {args : Array Value} {below : List Frame} {meth : Method} {c : Code} {D : va_G} {G : gG} {A : Nat → Prop} {H0 : Heap} {n0 : Int} {x : Option vV × hH} {h : hH}
set_option maxRecDepth 100000 in
set_option maxHeartbeats 4000000 in
theorem oX9_colHere_b39 {a0 : Int} {K : Int × hH → Prop} (k0 : ∀ r, K (r) → x = (some (0, r.1), r.2)) {r : Int × hH} (hr : fX9_colHere_b39 h a0 = some r) (hk : K r) : Wq p l e R s m args below meth c D G A H0 true n0 M_X9_colHere x 0 0 39 [(0, (19, a0))] [] h := by
  unfold fX9_colHere_b39 at hr
  refine r_aload_n dX9_colHere_39 rfl 0 rfl (nl rfl) ?_
  refine r_iconst dX9_colHere_40 (by decide) ?_
  obtain ⟨q41, hg41, hr⟩ := bnd hr
  refine k_V (ci := 9) (o := a0) (T := TX9) (as := [(0, 3)]) (rest := []) (X := (some (2, q41.1), q41.2)) (oX9_fail hg41) gX9_fail rfl (by decide) rfl (wsl_18 _ (List.mem_of_getElem? (i := 14) rfl)) rfl dX9_colHere_41 rfl ?_
  refine r_pop dX9_colHere_44 (Nat.ne_of_beq_eq_false rfl) ?_
  refine r_iconst dX9_colHere_45 (by decide) ?_
  obtain rfl := Option.some.inj hr
  exact r_ret dX9_colHere_46 rfl (Or.inl ⟨rfl, rfl⟩) (k0 _ hk) ⟨rfl, rfl⟩
set_option maxRecDepth 100000 in
set_option maxHeartbeats 4000000 in
theorem oX9_colHere_b0 {a0 a1 a2 a3 : Int} {K : Int × hH → Prop} (k0 : ∀ r, K (r) → x = (some (0, r.1), r.2)) {r : Int × hH} (hr : fX9_colHere h a0 a1 a2 a3 = some r) (hk : K r) : Wq p l e R s m args below meth c D G A H0 true n0 M_X9_colHere x 0 0 0 [(0, (19, a0)), (1, (14, a1)), (2, (0, a2)), (3, (0, a3))] [] h := by
  unfold fX9_colHere at hr
  refine r_aload_n dX9_colHere_0 rfl 0 rfl (nl rfl) ?_
  refine r_get 9 5 (o := a0) (w := (0, h a0 5)) (T := TX9) (ref := "FollowingRefs$Text") rfl (by decide) rfl (by decide) inlX9 (wsl_15 _ (List.mem_of_getElem? (i := 22) rfl)) rfl dX9_colHere_1 rfl ?_
  refine r_iconst dX9_colHere_4 (by decide) ?_
  refine r_icmp_eq dX9_colHere_5 (tgt := 16) (by decide) (fun hc => ?_) (fun hc => ?_)
  · have hr := ifp hr hc
    refine r_aload_n dX9_colHere_16 rfl 1 rfl (nl rfl) ?_
    refine r_iload_n dX9_colHere_17 rfl 2 rfl (Or.inl rfl) ?_
    refine r_aload_n dX9_colHere_18 rfl 0 rfl (nl rfl) ?_
    refine r_get 9 7 (o := a0) (w := (1, h a0 7)) (T := TX9) (ref := "FollowingRefs$Text") rfl (by decide) rfl (by decide) inlX9 (wsl_16 _ (List.mem_of_getElem? (i := 1) rfl)) rfl dX9_colHere_19 rfl ?_
    obtain ⟨r22, hg22, hr⟩ := bnd hr
    refine k_V (ci := 4) (o := a1) (T := TX4) (as := [(0, a2), (1, h a0 7)]) (rest := []) (X := (some (0, r22), h)) (oX4_colNamed hg22) gX4_colNamed rfl (by decide) rfl (wsl_19 _ (List.mem_of_getElem? (i := 0) rfl)) rfl dX9_colHere_22 rfl ?_
    refine r_istore dX9_colHere_25 (Or.inl rfl) (by decide) (lv' := [(4, (0, r22)), (0, (19, a0)), (1, (14, a1)), (2, (0, a2)), (3, (0, a3))]) rfl ?_
    refine r_iload dX9_colHere_27 0 rfl (Or.inl rfl) ?_
    refine r_iconst dX9_colHere_29 (by decide) ?_
    refine r_icmp_eq dX9_colHere_30 (tgt := 39) (by decide) (fun hc => ?_) (fun hc => ?_)
    · have hr := ifp hr hc
      refine r_sub [1] (lv' := [(0, (19, a0))]) rfl ?_
      exact oX9_colHere_b39 (K := K) (fun r z => k0 r z) hr hk
    · have hr := ifn hr hc
      refine r_iload dX9_colHere_33 0 rfl (Or.inl rfl) ?_
      refine r_iload_n dX9_colHere_35 rfl 4 rfl (Or.inl rfl) ?_
      refine r_icmp_ne dX9_colHere_36 (tgt := 47) (by decide) (fun hc => ?_) (fun hc => ?_)
      · have hr := ifn hr hc
        refine r_iload dX9_colHere_47 0 rfl (Or.inl rfl) ?_
        obtain rfl := Option.some.inj hr
        exact r_ret dX9_colHere_49 rfl (Or.inl ⟨rfl, rfl⟩) (k0 _ hk) ⟨rfl, rfl⟩
      · have hr := ifp hr hc
        refine r_sub [1] (lv' := [(0, (19, a0))]) rfl ?_
        exact oX9_colHere_b39 (K := K) (fun r z => k0 r z) hr hk
  · have hr := ifn hr hc
    refine r_aload_n dX9_colHere_8 rfl 0 rfl (nl rfl) ?_
    refine r_iconst dX9_colHere_9 (by decide) ?_
    obtain ⟨q10, hg10, hr⟩ := bnd hr
    refine k_V (ci := 9) (o := a0) (T := TX9) (as := [(0, 1)]) (rest := []) (X := (some (2, q10.1), q10.2)) (oX9_fail hg10) gX9_fail rfl (by decide) rfl (wsl_18 _ (List.mem_of_getElem? (i := 14) rfl)) rfl dX9_colHere_10 rfl ?_
    refine r_pop dX9_colHere_13 (Nat.ne_of_beq_eq_false rfl) ?_
    refine r_iconst dX9_colHere_14 (by decide) ?_
    obtain rfl := Option.some.inj hr
    exact r_ret dX9_colHere_15 rfl (Or.inl ⟨rfl, rfl⟩) (k0 _ hk) ⟨rfl, rfl⟩
end M_X9_colHere
theorem oX9_colHere {l : Launch} {D : va_G} {G : gG} {h : hH} {a0 a1 a2 a3 : Int} {r : Int × hH} (hr : fX9_colHere h a0 a1 a2 a3 = some r) : Ctr l D G true yX9_colHere M_X9_colHere [(19, a0), (14, a1), (0, a2), (0, a3)] h (some (0, r.1), r.2) :=
  Ctr_of (by decide) rfl (fun z => by cases z) (nl rfl) (fun {p e R s m args below meth c A H0} => by
    exact oX9_colHere_b0 (K := fun z9 => z9 = r) (fun r9 z => by rw [z]) hr rfl)
/-! X9_takeComparison -/
theorem dX9_takeComparison_0 : decode cX9_takeComparison 0 = .ok (.aload_n 0, 1) := by decide +kernel
theorem dX9_takeComparison_1 : decode cX9_takeComparison 1 = .ok (.getfield 76, 3) := by decide +kernel
theorem dX9_takeComparison_4 : decode cX9_takeComparison 4 = .ok (.istore_n 1, 1) := by decide +kernel
theorem dX9_takeComparison_5 : decode cX9_takeComparison 5 = .ok (.iload_n 1, 1) := by decide +kernel
theorem dX9_takeComparison_6 : decode cX9_takeComparison 6 = .ok (.bipush 60, 2) := by decide +kernel
theorem dX9_takeComparison_8 : decode cX9_takeComparison 8 = .ok (.if_icmp .eq 23, 3) := by decide +kernel
theorem dX9_takeComparison_11 : decode cX9_takeComparison 11 = .ok (.iload_n 1, 1) := by decide +kernel
theorem dX9_takeComparison_12 : decode cX9_takeComparison 12 = .ok (.bipush 61, 2) := by decide +kernel
theorem dX9_takeComparison_14 : decode cX9_takeComparison 14 = .ok (.if_icmp .eq 17, 3) := by decide +kernel
theorem dX9_takeComparison_17 : decode cX9_takeComparison 17 = .ok (.iload_n 1, 1) := by decide +kernel
theorem dX9_takeComparison_18 : decode cX9_takeComparison 18 = .ok (.bipush 62, 2) := by decide +kernel
theorem dX9_takeComparison_20 : decode cX9_takeComparison 20 = .ok (.if_icmp .eq 11, 3) := by decide +kernel
theorem dX9_takeComparison_23 : decode cX9_takeComparison 23 = .ok (.aload_n 0, 1) := by decide +kernel
theorem dX9_takeComparison_24 : decode cX9_takeComparison 24 = .ok (.iconst 1, 1) := by decide +kernel
theorem dX9_takeComparison_25 : decode cX9_takeComparison 25 = .ok (.invokevirtual 99, 3) := by decide +kernel
theorem dX9_takeComparison_28 : decode cX9_takeComparison 28 = .ok (.pop, 1) := by decide +kernel
theorem dX9_takeComparison_29 : decode cX9_takeComparison 29 = .ok (.iconst (-1), 1) := by decide +kernel
theorem dX9_takeComparison_30 : decode cX9_takeComparison 30 = .ok (.ireturn, 1) := by decide +kernel
theorem dX9_takeComparison_31 : decode cX9_takeComparison 31 = .ok (.aload_n 0, 1) := by decide +kernel
theorem dX9_takeComparison_32 : decode cX9_takeComparison 32 = .ok (.invokevirtual 65, 3) := by decide +kernel
theorem dX9_takeComparison_35 : decode cX9_takeComparison 35 = .ok (.iload_n 1, 1) := by decide +kernel
theorem dX9_takeComparison_36 : decode cX9_takeComparison 36 = .ok (.ireturn, 1) := by decide +kernel
abbrev M_X9_takeComparison : mM := (cX9_takeComparison, 2, RX9, some .int, false, 1, 22, 0, 0)
theorem gX9_takeComparison : cI yX9_takeComparison M_X9_takeComparison 0 := ⟨(wsl_21 _ (List.mem_of_getElem? (i := 22) rfl)), (wsl_21 _ (List.mem_of_getElem? (i := 23) rfl)), (wsl_1 _ (List.mem_of_getElem? (i := 15) rfl)), (wsl_22 _ (List.mem_of_getElem? (i := 0) rfl)), by decide +kernel⟩
noncomputable def fX9_takeComparison_b31 (h : hH) (a0 l1 : Int) : Option (Int × hH) :=
  (fX9_step h a0).bind fun h32 =>
  some (l1, h32)
noncomputable def fX9_takeComparison (h : hH) (a0 : Int) : Option (Int × hH) :=
  if h a0 5 = 60 then
    fX9_takeComparison_b31 h a0 (h a0 5)
  else
    if h a0 5 = 61 then
      fX9_takeComparison_b31 h a0 (h a0 5)
    else
      if h a0 5 = 62 then
        fX9_takeComparison_b31 h a0 (h a0 5)
      else
        (fX9_fail h a0 1).bind fun q25 =>
        some (-1, q25.2)
section M_X9_takeComparison
variable {p : Program} {l : Launch} {e : Env} {R : Room} {s : State} {m : MethodId} {args : Array Value} {below : List Frame} {meth : Method} {c : Code} {D : va_G} {G : gG} {A : Nat → Prop} {H0 : Heap} {n0 : Int} {x : Option vV × hH} {h : hH}
set_option maxRecDepth 100000 in
set_option maxHeartbeats 4000000 in
theorem oX9_takeComparison_b31 {a0 l1 : Int} {K : Int × hH → Prop} (k0 : ∀ r, K (r) → x = (some (0, r.1), r.2)) {r : Int × hH} (hr : fX9_takeComparison_b31 h a0 l1 = some r) (hk : K r) : Wq p l e R s m args below meth c D G A H0 true n0 M_X9_takeComparison x 0 0 31 [(0, (19, a0)), (1, (0, l1))] [] h := by
  unfold fX9_takeComparison_b31 at hr
  refine r_aload_n dX9_takeComparison_31 rfl 0 rfl (nl rfl) ?_
  obtain ⟨h32, hg32, hr⟩ := bnd hr
  refine k_V (ci := 9) (o := a0) (T := TX9) (as := []) (rest := []) (X := (none, h32)) (oX9_step hg32) gX9_step rfl (by decide) rfl (wsl_15 _ (List.mem_of_getElem? (i := 17) rfl)) rfl dX9_takeComparison_32 rfl ?_
  refine r_iload_n dX9_takeComparison_35 rfl 1 rfl (Or.inl rfl) ?_
  obtain rfl := Option.some.inj hr
  exact r_ret dX9_takeComparison_36 rfl (Or.inl ⟨rfl, rfl⟩) (k0 _ hk) ⟨rfl, rfl⟩
set_option maxRecDepth 100000 in
set_option maxHeartbeats 4000000 in
theorem oX9_takeComparison_b0 {a0 : Int} {K : Int × hH → Prop} (k0 : ∀ r, K (r) → x = (some (0, r.1), r.2)) {r : Int × hH} (hr : fX9_takeComparison h a0 = some r) (hk : K r) : Wq p l e R s m args below meth c D G A H0 true n0 M_X9_takeComparison x 0 0 0 [(0, (19, a0))] [] h := by
  unfold fX9_takeComparison at hr
  refine r_aload_n dX9_takeComparison_0 rfl 0 rfl (nl rfl) ?_
  refine r_get 9 5 (o := a0) (w := (0, h a0 5)) (T := TX9) (ref := "FollowingRefs$Text") rfl (by decide) rfl (by decide) inlX9 (wsl_15 _ (List.mem_of_getElem? (i := 22) rfl)) rfl dX9_takeComparison_1 rfl ?_
  refine r_istore_n dX9_takeComparison_4 rfl (Or.inl rfl) (by decide) (lv' := [(1, (0, h a0 5)), (0, (19, a0))]) rfl ?_
  refine r_iload_n dX9_takeComparison_5 rfl 0 rfl (Or.inl rfl) ?_
  refine r_bipush dX9_takeComparison_6 (by decide) (by decide) ?_
  refine r_icmp_eq dX9_takeComparison_8 (tgt := 31) (by decide) (fun hc => ?_) (fun hc => ?_)
  · have hr := ifp hr hc
    refine r_sub [1, 0] (lv' := [(0, (19, a0)), (1, (0, h a0 5))]) rfl ?_
    exact oX9_takeComparison_b31 (K := K) (fun r z => k0 r z) hr hk
  · have hr := ifn hr hc
    refine r_iload_n dX9_takeComparison_11 rfl 0 rfl (Or.inl rfl) ?_
    refine r_bipush dX9_takeComparison_12 (by decide) (by decide) ?_
    refine r_icmp_eq dX9_takeComparison_14 (tgt := 31) (by decide) (fun hc => ?_) (fun hc => ?_)
    · have hr := ifp hr hc
      refine r_sub [1, 0] (lv' := [(0, (19, a0)), (1, (0, h a0 5))]) rfl ?_
      exact oX9_takeComparison_b31 (K := K) (fun r z => k0 r z) hr hk
    · have hr := ifn hr hc
      refine r_iload_n dX9_takeComparison_17 rfl 0 rfl (Or.inl rfl) ?_
      refine r_bipush dX9_takeComparison_18 (by decide) (by decide) ?_
      refine r_icmp_eq dX9_takeComparison_20 (tgt := 31) (by decide) (fun hc => ?_) (fun hc => ?_)
      · have hr := ifp hr hc
        refine r_sub [1, 0] (lv' := [(0, (19, a0)), (1, (0, h a0 5))]) rfl ?_
        exact oX9_takeComparison_b31 (K := K) (fun r z => k0 r z) hr hk
      · have hr := ifn hr hc
        refine r_aload_n dX9_takeComparison_23 rfl 1 rfl (nl rfl) ?_
        refine r_iconst dX9_takeComparison_24 (by decide) ?_
        obtain ⟨q25, hg25, hr⟩ := bnd hr
        refine k_V (ci := 9) (o := a0) (T := TX9) (as := [(0, 1)]) (rest := []) (X := (some (2, q25.1), q25.2)) (oX9_fail hg25) gX9_fail rfl (by decide) rfl (wsl_18 _ (List.mem_of_getElem? (i := 14) rfl)) rfl dX9_takeComparison_25 rfl ?_
        refine r_pop dX9_takeComparison_28 (Nat.ne_of_beq_eq_false rfl) ?_
        refine r_iconst dX9_takeComparison_29 (by decide) ?_
        obtain rfl := Option.some.inj hr
        exact r_ret dX9_takeComparison_30 rfl (Or.inl ⟨rfl, rfl⟩) (k0 _ hk) ⟨rfl, rfl⟩
end M_X9_takeComparison
theorem oX9_takeComparison {l : Launch} {D : va_G} {G : gG} {h : hH} {a0 : Int} {r : Int × hH} (hr : fX9_takeComparison h a0 = some r) : Ctr l D G true yX9_takeComparison M_X9_takeComparison [(19, a0)] h (some (0, r.1), r.2) :=
  Ctr_of (by decide) rfl (fun z => by cases z) (nl rfl) (fun {p e R s m args below meth c A H0} => by
    exact oX9_takeComparison_b0 (K := fun z9 => z9 = r) (fun r9 z => by rw [z]) hr rfl)
/-! X2_readConds -/
theorem dX2_readConds_0 : decode cX2_readConds 0 = .ok (.aload_n 0, 1) := by decide +kernel
theorem dX2_readConds_1 : decode cX2_readConds 1 = .ok (.getfield 15, 3) := by decide +kernel
theorem dX2_readConds_4 : decode cX2_readConds 4 = .ok (.sipush 143, 3) := by decide +kernel
theorem dX2_readConds_7 : decode cX2_readConds 7 = .ok (.invokevirtual 102, 3) := by decide +kernel
theorem dX2_readConds_10 : decode cX2_readConds 10 = .ok (.ifCond .ne 5, 3) := by decide +kernel
theorem dX2_readConds_13 : decode cX2_readConds 13 = .ok (.iconst 1, 1) := by decide +kernel
theorem dX2_readConds_14 : decode cX2_readConds 14 = .ok (.ireturn, 1) := by decide +kernel
theorem dX2_readConds_15 : decode cX2_readConds 15 = .ok (.iconst 0, 1) := by decide +kernel
theorem dX2_readConds_16 : decode cX2_readConds 16 = .ok (.istore_n 3, 1) := by decide +kernel
theorem dX2_readConds_17 : decode cX2_readConds 17 = .ok (.iload_n 3, 1) := by decide +kernel
theorem dX2_readConds_18 : decode cX2_readConds 18 = .ok (.iconst 4, 1) := by decide +kernel
theorem dX2_readConds_19 : decode cX2_readConds 19 = .ok (.if_icmp .gt 119, 3) := by decide +kernel
theorem dX2_readConds_22 : decode cX2_readConds 22 = .ok (.aload_n 0, 1) := by decide +kernel
theorem dX2_readConds_23 : decode cX2_readConds 23 = .ok (.getfield 15, 3) := by decide +kernel
theorem dX2_readConds_26 : decode cX2_readConds 26 = .ok (.aload_n 0, 1) := by decide +kernel
theorem dX2_readConds_27 : decode cX2_readConds 27 = .ok (.getfield 19, 3) := by decide +kernel
theorem dX2_readConds_30 : decode cX2_readConds 30 = .ok (.iload_n 2, 1) := by decide +kernel
theorem dX2_readConds_31 : decode cX2_readConds 31 = .ok (.iconst (-1), 1) := by decide +kernel
theorem dX2_readConds_32 : decode cX2_readConds 32 = .ok (.invokevirtual 105, 3) := by decide +kernel
theorem dX2_readConds_35 : decode cX2_readConds 35 = .ok (.istore 4, 2) := by decide +kernel
theorem dX2_readConds_37 : decode cX2_readConds 37 = .ok (.iload 4, 2) := by decide +kernel
theorem dX2_readConds_39 : decode cX2_readConds 39 = .ok (.iconst (-1), 1) := by decide +kernel
theorem dX2_readConds_40 : decode cX2_readConds 40 = .ok (.if_icmp .ne 5, 3) := by decide +kernel
theorem dX2_readConds_43 : decode cX2_readConds 43 = .ok (.iconst 0, 1) := by decide +kernel
theorem dX2_readConds_44 : decode cX2_readConds 44 = .ok (.ireturn, 1) := by decide +kernel
theorem dX2_readConds_45 : decode cX2_readConds 45 = .ok (.iload_n 3, 1) := by decide +kernel
theorem dX2_readConds_46 : decode cX2_readConds 46 = .ok (.iconst 4, 1) := by decide +kernel
theorem dX2_readConds_47 : decode cX2_readConds 47 = .ok (.if_icmp .ne 12, 3) := by decide +kernel
theorem dX2_readConds_50 : decode cX2_readConds 50 = .ok (.aload_n 0, 1) := by decide +kernel
theorem dX2_readConds_51 : decode cX2_readConds 51 = .ok (.getfield 15, 3) := by decide +kernel
theorem dX2_readConds_54 : decode cX2_readConds 54 = .ok (.iconst 4, 1) := by decide +kernel
theorem dX2_readConds_55 : decode cX2_readConds 55 = .ok (.invokevirtual 56, 3) := by decide +kernel
theorem dX2_readConds_58 : decode cX2_readConds 58 = .ok (.ireturn, 1) := by decide +kernel
theorem dX2_readConds_59 : decode cX2_readConds 59 = .ok (.aload_n 0, 1) := by decide +kernel
theorem dX2_readConds_60 : decode cX2_readConds 60 = .ok (.getfield 15, 3) := by decide +kernel
theorem dX2_readConds_63 : decode cX2_readConds 63 = .ok (.invokevirtual 59, 3) := by decide +kernel
theorem dX2_readConds_66 : decode cX2_readConds 66 = .ok (.aload_n 0, 1) := by decide +kernel
theorem dX2_readConds_67 : decode cX2_readConds 67 = .ok (.getfield 15, 3) := by decide +kernel
theorem dX2_readConds_70 : decode cX2_readConds 70 = .ok (.invokevirtual 108, 3) := by decide +kernel
theorem dX2_readConds_73 : decode cX2_readConds 73 = .ok (.istore 5, 2) := by decide +kernel
theorem dX2_readConds_75 : decode cX2_readConds 75 = .ok (.iload 5, 2) := by decide +kernel
theorem dX2_readConds_77 : decode cX2_readConds 77 = .ok (.iconst (-1), 1) := by decide +kernel
theorem dX2_readConds_78 : decode cX2_readConds 78 = .ok (.if_icmp .ne 7, 3) := by decide +kernel
theorem dX2_readConds_81 : decode cX2_readConds 81 = .ok (.iconst (-1), 1) := by decide +kernel
theorem dX2_readConds_82 : decode cX2_readConds 82 = .ok (.goto 10, 3) := by decide +kernel
theorem dX2_readConds_85 : decode cX2_readConds 85 = .ok (.aload_n 0, 1) := by decide +kernel
theorem dX2_readConds_86 : decode cX2_readConds 86 = .ok (.getfield 15, 3) := by decide +kernel
theorem dX2_readConds_89 : decode cX2_readConds 89 = .ok (.invokevirtual 91, 3) := by decide +kernel
theorem dX2_readConds_92 : decode cX2_readConds 92 = .ok (.istore 6, 2) := by decide +kernel
theorem dX2_readConds_94 : decode cX2_readConds 94 = .ok (.aload_n 0, 1) := by decide +kernel
theorem dX2_readConds_95 : decode cX2_readConds 95 = .ok (.getfield 15, 3) := by decide +kernel
theorem dX2_readConds_98 : decode cX2_readConds 98 = .ok (.getfield 95, 3) := by decide +kernel
theorem dX2_readConds_101 : decode cX2_readConds 101 = .ok (.ifCond .eq 5, 3) := by decide +kernel
theorem dX2_readConds_104 : decode cX2_readConds 104 = .ok (.iconst 0, 1) := by decide +kernel
theorem dX2_readConds_105 : decode cX2_readConds 105 = .ok (.ireturn, 1) := by decide +kernel
theorem dX2_readConds_106 : decode cX2_readConds 106 = .ok (.aload_n 0, 1) := by decide +kernel
theorem dX2_readConds_107 : decode cX2_readConds 107 = .ok (.iload_n 1, 1) := by decide +kernel
theorem dX2_readConds_108 : decode cX2_readConds 108 = .ok (.iload 4, 2) := by decide +kernel
theorem dX2_readConds_110 : decode cX2_readConds 110 = .ok (.iload 5, 2) := by decide +kernel
theorem dX2_readConds_112 : decode cX2_readConds 112 = .ok (.iload 6, 2) := by decide +kernel
theorem dX2_readConds_114 : decode cX2_readConds 114 = .ok (.invokevirtual 111, 3) := by decide +kernel
theorem dX2_readConds_117 : decode cX2_readConds 117 = .ok (.aload_n 0, 1) := by decide +kernel
theorem dX2_readConds_118 : decode cX2_readConds 118 = .ok (.getfield 15, 3) := by decide +kernel
theorem dX2_readConds_121 : decode cX2_readConds 121 = .ok (.sipush 144, 3) := by decide +kernel
theorem dX2_readConds_124 : decode cX2_readConds 124 = .ok (.invokevirtual 102, 3) := by decide +kernel
theorem dX2_readConds_127 : decode cX2_readConds 127 = .ok (.ifCond .ne 5, 3) := by decide +kernel
theorem dX2_readConds_130 : decode cX2_readConds 130 = .ok (.iconst 1, 1) := by decide +kernel
theorem dX2_readConds_131 : decode cX2_readConds 131 = .ok (.ireturn, 1) := by decide +kernel
theorem dX2_readConds_132 : decode cX2_readConds 132 = .ok (.iinc 3 1, 3) := by decide +kernel
theorem dX2_readConds_135 : decode cX2_readConds 135 = .ok (.goto (-118), 3) := by decide +kernel
theorem dX2_readConds_138 : decode cX2_readConds 138 = .ok (.iconst 1, 1) := by decide +kernel
theorem dX2_readConds_139 : decode cX2_readConds 139 = .ok (.ireturn, 1) := by decide +kernel
abbrev M_X2_readConds : mM := (cX2_readConds, 7, RX2, some .boolean, false, 3, 71, 0, 0)
theorem gX2_readConds : cI yX2_readConds M_X2_readConds 2 := ⟨(wsl_31 _ (List.mem_of_getElem? (i := 1) rfl)), (wsl_31 _ (List.mem_of_getElem? (i := 2) rfl)), (wsl_2 _ (List.mem_of_getElem? (i := 15) rfl)), (wsl_31 _ (List.mem_of_getElem? (i := 3) rfl)), by decide +kernel⟩
noncomputable def fX2_readConds_b92 (h : hH) (a0 a1 a2 l3 l4 l5 s0 : Int) : Option ((hH × Int) ⊕ (Int × hH)) :=
  if h (h a0 0) 8 = 0 then
    (fX2_addCond h a0 a1 l4 l5 s0).bind fun h114 =>
    (fX9_option h114 (h114 a0 0) 144).bind fun q124 =>
    if q124.1 = 0 then
      some (.inr ((1, q124.2)))
    else
      some (.inl (q124.2, w32 (l3 + 1)))
  else
    some (.inr ((0, h)))
noncomputable def fX2_readConds_s17 (h0 : hH) (a0 a1 a2 : Int) : hH × Int → Option ((hH × Int) ⊕ (Int × hH)) := fun (h, l3) =>
  if 4 < l3 then
    some (.inr ((1, h)))
  else
    (fX9_colHere h (h a0 0) (h a0 1) a2 (-1)).bind fun q32 =>
    if q32.1 = -1 then
      some (.inr ((0, q32.2)))
    else
      if l3 = 4 then
        (fX9_fail q32.2 (q32.2 a0 0) 4).bind fun q55 =>
        some (.inr ((q55.1, q55.2)))
      else
        (fX9_step q32.2 (q32.2 a0 0)).bind fun h63 =>
        (fX9_takeComparison h63 (h63 a0 0)).bind fun q70 =>
        if q70.1 = -1 then
          fX2_readConds_b92 q70.2 a0 a1 a2 l3 q32.1 q70.1 (-1)
        else
          (fX9_takeValue q70.2 (q70.2 a0 0)).bind fun q89 =>
          fX2_readConds_b92 q89.2 a0 a1 a2 l3 q32.1 q70.1 q89.1
noncomputable def fX2_readConds (h : hH) (a0 a1 a2 : Int) : Option (Int × hH) :=
  (fX9_option h (h a0 0) 143).bind fun q7 =>
  if q7.1 = 0 then
    some (1, q7.2)
  else
    lpO (fX2_readConds_s17 q7.2 a0 a1 a2) (q7.2, 0)
section M_X2_readConds
variable {p : Program} {l : Launch} {e : Env} {R : Room} {s : State} {m : MethodId} {args : Array Value} {below : List Frame} {meth : Method} {c : Code} {D : va_G} {G : gG} {A : Nat → Prop} {H0 : Heap} {n0 : Int} {x : Option vV × hH} {h : hH}
set_option maxRecDepth 100000 in
set_option maxHeartbeats 4000000 in
theorem oX2_readConds_b92 {a0 a1 a2 l3 l4 l5 s0 : Int} {K : (hH × Int) ⊕ (Int × hH) → Prop} (k0 : ∀ r, K (.inr (r)) → x = (some (2, r.1), r.2)) (k1 : ∀ (h : hH) (l3 : Int), K (.inl (h, l3)) → Wq p l e R s m args below meth c D G A H0 true n0 M_X2_readConds x 0 0 17 [(0, (12, a0)), (1, (0, a1)), (2, (0, a2)), (3, (0, l3))] [] h) {r : (hH × Int) ⊕ (Int × hH)} (hr : fX2_readConds_b92 h a0 a1 a2 l3 l4 l5 s0 = some r) (hk : K r) : Wq p l e R s m args below meth c D G A H0 true n0 M_X2_readConds x 0 0 92 [(0, (12, a0)), (1, (0, a1)), (2, (0, a2)), (3, (0, l3)), (4, (0, l4)), (5, (0, l5))] [(0, s0)] h := by
  unfold fX2_readConds_b92 at hr
  refine r_istore dX2_readConds_92 (Or.inl rfl) (by decide) (lv' := [(6, (0, s0)), (0, (12, a0)), (1, (0, a1)), (2, (0, a2)), (3, (0, l3)), (4, (0, l4)), (5, (0, l5))]) rfl ?_
  refine r_aload_n dX2_readConds_94 rfl 1 rfl (nl rfl) ?_
  refine r_get 2 0 (o := a0) (w := (19, h a0 0)) (T := TX2) (ref := "FollowingRefs$Lines") rfl (by decide) rfl (by decide) inlX2 (wsl_5 _ (List.mem_of_getElem? (i := 14) rfl)) rfl dX2_readConds_95 rfl ?_
  refine r_get 9 8 (o := h a0 0) (w := (0, h (h a0 0) 8)) (T := TX9) (ref := "FollowingRefs$Text") rfl (by decide) rfl (by decide) inlX9 (wsl_30 _ (List.mem_of_getElem? (i := 17) rfl)) rfl dX2_readConds_98 rfl ?_
  refine r_if_eq dX2_readConds_101 (tgt := 106) (by decide) (fun hc => ?_) (fun hc => ?_)
  · have hr := ifp hr hc
    refine r_aload_n dX2_readConds_106 rfl 1 rfl (nl rfl) ?_
    refine r_iload_n dX2_readConds_107 rfl 2 rfl (Or.inl rfl) ?_
    refine r_iload dX2_readConds_108 5 rfl (Or.inl rfl) ?_
    refine r_iload dX2_readConds_110 6 rfl (Or.inl rfl) ?_
    refine r_iload dX2_readConds_112 0 rfl (Or.inl rfl) ?_
    obtain ⟨h114, hg114, hr⟩ := bnd hr
    refine k_V (ci := 2) (o := a0) (T := TX2) (as := [(0, a1), (0, l4), (0, l5), (0, s0)]) (rest := []) (X := (none, h114)) (oX2_addCond hg114) gX2_addCond rfl (by decide) rfl (wsl_31 _ (List.mem_of_getElem? (i := 7) rfl)) rfl dX2_readConds_114 rfl ?_
    refine r_aload_n dX2_readConds_117 rfl 1 rfl (nl rfl) ?_
    refine r_get 2 0 (o := a0) (w := (19, h114 a0 0)) (T := TX2) (ref := "FollowingRefs$Lines") rfl (by decide) rfl (by decide) inlX2 (wsl_5 _ (List.mem_of_getElem? (i := 14) rfl)) rfl dX2_readConds_118 rfl ?_
    refine r_sipush dX2_readConds_121 (by decide) (by decide) ?_
    obtain ⟨q124, hg124, hr⟩ := bnd hr
    refine k_V (ci := 9) (o := h114 a0 0) (T := TX9) (as := [(0, 144)]) (rest := []) (X := (some (2, q124.1), q124.2)) (oX9_option hg124) gX9_option rfl (by decide) rfl (wsl_31 _ (List.mem_of_getElem? (i := 4) rfl)) rfl dX2_readConds_124 rfl ?_
    refine r_scast 0 (v := (2, q124.1)) (w := (0, q124.1)) rfl zc hTz (st' := [(0, q124.1)]) rfl ?_
    refine r_if_ne dX2_readConds_127 (tgt := 132) (by decide) (fun hc => ?_) (fun hc => ?_)
    · have hr := ifn hr hc
      refine r_iinc (k := 4) (v := l3) dX2_readConds_132 rfl (by decide) (lv' := [(3, (0, w32 (l3 + 1))), (6, (0, s0)), (0, (12, a0)), (1, (0, a1)), (2, (0, a2)), (4, (0, l4)), (5, (0, l5))]) rfl ?_
      refine r_goto dX2_readConds_135 (tgt := 17) (by decide) ?_
      refine r_sub [2, 3, 4, 0] (lv' := [(0, (12, a0)), (1, (0, a1)), (2, (0, a2)), (3, (0, w32 (l3 + 1)))]) rfl ?_
      obtain rfl := Option.some.inj hr
      exact k1 _ _ hk
    · have hr := ifp hr hc
      refine r_iconst dX2_readConds_130 (by decide) ?_
      refine r_scast 0 (v := (0, 1)) (w := (2, 1)) rfl cz (fun _ => Or.inr rfl) (st' := [(2, 1)]) rfl ?_
      obtain rfl := Option.some.inj hr
      exact r_ret dX2_readConds_131 rfl (Or.inr ⟨rfl, rfl⟩) (k0 _ hk) ⟨rfl, rfl⟩
  · have hr := ifn hr hc
    refine r_iconst dX2_readConds_104 (by decide) ?_
    refine r_scast 0 (v := (0, 0)) (w := (2, 0)) rfl cz (fun _ => Or.inl rfl) (st' := [(2, 0)]) rfl ?_
    obtain rfl := Option.some.inj hr
    exact r_ret dX2_readConds_105 rfl (Or.inr ⟨rfl, rfl⟩) (k0 _ hk) ⟨rfl, rfl⟩
set_option maxRecDepth 100000 in
set_option maxHeartbeats 4000000 in
theorem oX2_readConds_s17 {h0 : hH} {a0 a1 a2 l3 : Int} {K : (hH × Int) ⊕ (Int × hH) → Prop} (k0 : ∀ r, K (.inr (r)) → x = (some (2, r.1), r.2)) (k1 : ∀ (h : hH) (l3 : Int), K (.inl (h, l3)) → Wq p l e R s m args below meth c D G A H0 true n0 M_X2_readConds x 0 0 17 [(0, (12, a0)), (1, (0, a1)), (2, (0, a2)), (3, (0, l3))] [] h) {r : (hH × Int) ⊕ (Int × hH)} (hr : fX2_readConds_s17 h0 a0 a1 a2 (h, l3) = some r) (hk : K r) : Wq p l e R s m args below meth c D G A H0 true n0 M_X2_readConds x 0 0 17 [(0, (12, a0)), (1, (0, a1)), (2, (0, a2)), (3, (0, l3))] [] h := by
  unfold fX2_readConds_s17 at hr
  refine r_iload_n dX2_readConds_17 rfl 3 rfl (Or.inl rfl) ?_
  refine r_iconst dX2_readConds_18 (by decide) ?_
  refine r_icmp_gt dX2_readConds_19 (tgt := 138) (by decide) (fun hc => ?_) (fun hc => ?_)
  · have hr := ifp hr hc
    refine r_iconst dX2_readConds_138 (by decide) ?_
    refine r_scast 0 (v := (0, 1)) (w := (2, 1)) rfl cz (fun _ => Or.inr rfl) (st' := [(2, 1)]) rfl ?_
    obtain rfl := Option.some.inj hr
    exact r_ret dX2_readConds_139 rfl (Or.inr ⟨rfl, rfl⟩) (k0 _ hk) ⟨rfl, rfl⟩
  · have hr := ifn hr hc
    refine r_aload_n dX2_readConds_22 rfl 0 rfl (nl rfl) ?_
    refine r_get 2 0 (o := a0) (w := (19, h a0 0)) (T := TX2) (ref := "FollowingRefs$Lines") rfl (by decide) rfl (by decide) inlX2 (wsl_5 _ (List.mem_of_getElem? (i := 14) rfl)) rfl dX2_readConds_23 rfl ?_
    refine r_aload_n dX2_readConds_26 rfl 0 rfl (nl rfl) ?_
    refine r_get 2 1 (o := a0) (w := (14, h a0 1)) (T := TX2) (ref := "FollowingRefs$Lines") rfl (by decide) rfl (by decide) inlX2 (wsl_5 _ (List.mem_of_getElem? (i := 15) rfl)) rfl dX2_readConds_27 rfl ?_
    refine r_iload_n dX2_readConds_30 rfl 2 rfl (Or.inl rfl) ?_
    refine r_iconst dX2_readConds_31 (by decide) ?_
    obtain ⟨q32, hg32, hr⟩ := bnd hr
    refine k_V (ci := 9) (o := h a0 0) (T := TX9) (as := [(14, h a0 1), (0, a2), (0, -1)]) (rest := []) (X := (some (0, q32.1), q32.2)) (oX9_colHere hg32) gX9_colHere rfl (by decide) rfl (wsl_31 _ (List.mem_of_getElem? (i := 5) rfl)) rfl dX2_readConds_32 rfl ?_
    refine r_istore dX2_readConds_35 (Or.inl rfl) (by decide) (lv' := [(4, (0, q32.1)), (0, (12, a0)), (1, (0, a1)), (2, (0, a2)), (3, (0, l3))]) rfl ?_
    refine r_iload dX2_readConds_37 0 rfl (Or.inl rfl) ?_
    refine r_iconst dX2_readConds_39 (by decide) ?_
    refine r_icmp_ne dX2_readConds_40 (tgt := 45) (by decide) (fun hc => ?_) (fun hc => ?_)
    · have hr := ifn hr hc
      refine r_iload_n dX2_readConds_45 rfl 4 rfl (Or.inl rfl) ?_
      refine r_iconst dX2_readConds_46 (by decide) ?_
      refine r_icmp_ne dX2_readConds_47 (tgt := 59) (by decide) (fun hc => ?_) (fun hc => ?_)
      · have hr := ifn hr hc
        refine r_aload_n dX2_readConds_59 rfl 1 rfl (nl rfl) ?_
        refine r_get 2 0 (o := a0) (w := (19, q32.2 a0 0)) (T := TX2) (ref := "FollowingRefs$Lines") rfl (by decide) rfl (by decide) inlX2 (wsl_5 _ (List.mem_of_getElem? (i := 14) rfl)) rfl dX2_readConds_60 rfl ?_
        obtain ⟨h63, hg63, hr⟩ := bnd hr
        refine k_V (ci := 9) (o := q32.2 a0 0) (T := TX9) (as := []) (rest := []) (X := (none, h63)) (oX9_step hg63) gX9_step rfl (by decide) rfl (wsl_29 _ (List.mem_of_getElem? (i := 23) rfl)) rfl dX2_readConds_63 rfl ?_
        refine r_aload_n dX2_readConds_66 rfl 1 rfl (nl rfl) ?_
        refine r_get 2 0 (o := a0) (w := (19, h63 a0 0)) (T := TX2) (ref := "FollowingRefs$Lines") rfl (by decide) rfl (by decide) inlX2 (wsl_5 _ (List.mem_of_getElem? (i := 14) rfl)) rfl dX2_readConds_67 rfl ?_
        obtain ⟨q70, hg70, hr⟩ := bnd hr
        refine k_V (ci := 9) (o := h63 a0 0) (T := TX9) (as := []) (rest := []) (X := (some (0, q70.1), q70.2)) (oX9_takeComparison hg70) gX9_takeComparison rfl (by decide) rfl (wsl_31 _ (List.mem_of_getElem? (i := 6) rfl)) rfl dX2_readConds_70 rfl ?_
        refine r_istore dX2_readConds_73 (Or.inl rfl) (by decide) (lv' := [(5, (0, q70.1)), (4, (0, q32.1)), (0, (12, a0)), (1, (0, a1)), (2, (0, a2)), (3, (0, l3))]) rfl ?_
        refine r_iload dX2_readConds_75 0 rfl (Or.inl rfl) ?_
        refine r_iconst dX2_readConds_77 (by decide) ?_
        refine r_icmp_ne dX2_readConds_78 (tgt := 85) (by decide) (fun hc => ?_) (fun hc => ?_)
        · have hr := ifn hr hc
          refine r_aload_n dX2_readConds_85 rfl 2 rfl (nl rfl) ?_
          refine r_get 2 0 (o := a0) (w := (19, q70.2 a0 0)) (T := TX2) (ref := "FollowingRefs$Lines") rfl (by decide) rfl (by decide) inlX2 (wsl_5 _ (List.mem_of_getElem? (i := 14) rfl)) rfl dX2_readConds_86 rfl ?_
          obtain ⟨q89, hg89, hr⟩ := bnd hr
          refine k_V (ci := 9) (o := q70.2 a0 0) (T := TX9) (as := []) (rest := []) (X := (some (0, q89.1), q89.2)) (oX9_takeValue hg89) gX9_takeValue rfl (by decide) rfl (wsl_30 _ (List.mem_of_getElem? (i := 19) rfl)) rfl dX2_readConds_89 rfl ?_
          refine r_sub [2, 3, 4, 5, 1, 0] (lv' := [(0, (12, a0)), (1, (0, a1)), (2, (0, a2)), (3, (0, l3)), (4, (0, q32.1)), (5, (0, q70.1))]) rfl ?_
          exact oX2_readConds_b92 (K := K) (fun r z => k0 r z) (fun _ _ z => k1 _ _ z) hr hk
        · have hr := ifp hr hc
          refine r_iconst dX2_readConds_81 (by decide) ?_
          refine r_goto dX2_readConds_82 (tgt := 92) (by decide) ?_
          refine r_sub [2, 3, 4, 5, 1, 0] (lv' := [(0, (12, a0)), (1, (0, a1)), (2, (0, a2)), (3, (0, l3)), (4, (0, q32.1)), (5, (0, q70.1))]) rfl ?_
          exact oX2_readConds_b92 (K := K) (fun r z => k0 r z) (fun _ _ z => k1 _ _ z) hr hk
      · have hr := ifp hr hc
        refine r_aload_n dX2_readConds_50 rfl 1 rfl (nl rfl) ?_
        refine r_get 2 0 (o := a0) (w := (19, q32.2 a0 0)) (T := TX2) (ref := "FollowingRefs$Lines") rfl (by decide) rfl (by decide) inlX2 (wsl_5 _ (List.mem_of_getElem? (i := 14) rfl)) rfl dX2_readConds_51 rfl ?_
        refine r_iconst dX2_readConds_54 (by decide) ?_
        obtain ⟨q55, hg55, hr⟩ := bnd hr
        refine k_V (ci := 9) (o := q32.2 a0 0) (T := TX9) (as := [(0, 4)]) (rest := []) (X := (some (2, q55.1), q55.2)) (oX9_fail hg55) gX9_fail rfl (by decide) rfl (wsl_29 _ (List.mem_of_getElem? (i := 22) rfl)) rfl dX2_readConds_55 rfl ?_
        obtain rfl := Option.some.inj hr
        exact r_ret dX2_readConds_58 rfl (Or.inr ⟨rfl, rfl⟩) (k0 _ hk) ⟨rfl, rfl⟩
    · have hr := ifp hr hc
      refine r_iconst dX2_readConds_43 (by decide) ?_
      refine r_scast 0 (v := (0, 0)) (w := (2, 0)) rfl cz (fun _ => Or.inl rfl) (st' := [(2, 0)]) rfl ?_
      obtain rfl := Option.some.inj hr
      exact r_ret dX2_readConds_44 rfl (Or.inr ⟨rfl, rfl⟩) (k0 _ hk) ⟨rfl, rfl⟩
set_option maxRecDepth 100000 in
set_option maxHeartbeats 4000000 in
theorem oX2_readConds_b0 {a0 a1 a2 : Int} {K : Int × hH → Prop} (k0 : ∀ r, K (r) → x = (some (2, r.1), r.2)) {r : Int × hH} (hr : fX2_readConds h a0 a1 a2 = some r) (hk : K r) : Wq p l e R s m args below meth c D G A H0 true n0 M_X2_readConds x 0 0 0 [(0, (12, a0)), (1, (0, a1)), (2, (0, a2))] [] h := by
  unfold fX2_readConds at hr
  refine r_aload_n dX2_readConds_0 rfl 0 rfl (nl rfl) ?_
  refine r_get 2 0 (o := a0) (w := (19, h a0 0)) (T := TX2) (ref := "FollowingRefs$Lines") rfl (by decide) rfl (by decide) inlX2 (wsl_5 _ (List.mem_of_getElem? (i := 14) rfl)) rfl dX2_readConds_1 rfl ?_
  refine r_sipush dX2_readConds_4 (by decide) (by decide) ?_
  obtain ⟨q7, hg7, hr⟩ := bnd hr
  refine k_V (ci := 9) (o := h a0 0) (T := TX9) (as := [(0, 143)]) (rest := []) (X := (some (2, q7.1), q7.2)) (oX9_option hg7) gX9_option rfl (by decide) rfl (wsl_31 _ (List.mem_of_getElem? (i := 4) rfl)) rfl dX2_readConds_7 rfl ?_
  refine r_scast 0 (v := (2, q7.1)) (w := (0, q7.1)) rfl zc hTz (st' := [(0, q7.1)]) rfl ?_
  refine r_if_ne dX2_readConds_10 (tgt := 15) (by decide) (fun hc => ?_) (fun hc => ?_)
  · have hr := ifn hr hc
    refine r_iconst dX2_readConds_15 (by decide) ?_
    refine r_istore_n dX2_readConds_16 rfl (Or.inl rfl) (by decide) (lv' := [(3, (0, 0)), (0, (12, a0)), (1, (0, a1)), (2, (0, a2))]) rfl ?_
    refine r_sub [1, 2, 3, 0] (lv' := [(0, (12, a0)), (1, (0, a1)), (2, (0, a2)), (3, (0, 0))]) rfl ?_
    exact lp_ok (w := fun (q : hH × Int) => Wq p l e R s m args below meth c D G A H0 true n0 M_X2_readConds x 0 0 17 [(0, (12, a0)), (1, (0, a1)), (2, (0, a2)), (3, (0, q.2))] [] (q.1)) (K := K) (fun ⟨q0, q1⟩ r h1 h2 => oX2_readConds_s17 (K := Sum.elim (fun (q : hH × Int) => Wq p l e R s m args below meth c D G A H0 true n0 M_X2_readConds x 0 0 17 [(0, (12, a0)), (1, (0, a1)), (2, (0, a2)), (3, (0, q.2))] [] (q.1)) (K)) (fun r z => k0 r z) (fun _ _ z => z) h1 h2) hr hk
  · have hr := ifp hr hc
    refine r_iconst dX2_readConds_13 (by decide) ?_
    refine r_scast 0 (v := (0, 1)) (w := (2, 1)) rfl cz (fun _ => Or.inr rfl) (st' := [(2, 1)]) rfl ?_
    obtain rfl := Option.some.inj hr
    exact r_ret dX2_readConds_14 rfl (Or.inr ⟨rfl, rfl⟩) (k0 _ hk) ⟨rfl, rfl⟩
end M_X2_readConds
theorem oX2_readConds {l : Launch} {D : va_G} {G : gG} {h : hH} {a0 a1 a2 : Int} {r : Int × hH} (hr : fX2_readConds h a0 a1 a2 = some r) : Ctr l D G true yX2_readConds M_X2_readConds [(12, a0), (0, a1), (0, a2)] h (some (2, r.1), r.2) :=
  Ctr_of (by decide) rfl (fun z => by cases z) (nl rfl) (fun {p e R s m args below meth c A H0} => by
    exact oX2_readConds_b0 (K := fun z9 => z9 = r) (fun r9 z => by rw [z]) hr rfl)
/-! X9_takeCol -/
theorem dX9_takeCol_0 : decode cX9_takeCol 0 = .ok (.aload_n 0, 1) := by decide +kernel
theorem dX9_takeCol_1 : decode cX9_takeCol 1 = .ok (.aload_n 1, 1) := by decide +kernel
theorem dX9_takeCol_2 : decode cX9_takeCol 2 = .ok (.iload_n 2, 1) := by decide +kernel
theorem dX9_takeCol_3 : decode cX9_takeCol 3 = .ok (.iload_n 3, 1) := by decide +kernel
theorem dX9_takeCol_4 : decode cX9_takeCol 4 = .ok (.invokevirtual 116, 3) := by decide +kernel
theorem dX9_takeCol_7 : decode cX9_takeCol 7 = .ok (.istore 4, 2) := by decide +kernel
theorem dX9_takeCol_9 : decode cX9_takeCol 9 = .ok (.iload 4, 2) := by decide +kernel
theorem dX9_takeCol_11 : decode cX9_takeCol 11 = .ok (.iconst (-1), 1) := by decide +kernel
theorem dX9_takeCol_12 : decode cX9_takeCol 12 = .ok (.if_icmp .eq 7, 3) := by decide +kernel
theorem dX9_takeCol_15 : decode cX9_takeCol 15 = .ok (.aload_n 0, 1) := by decide +kernel
theorem dX9_takeCol_16 : decode cX9_takeCol 16 = .ok (.invokevirtual 65, 3) := by decide +kernel
theorem dX9_takeCol_19 : decode cX9_takeCol 19 = .ok (.iload 4, 2) := by decide +kernel
theorem dX9_takeCol_21 : decode cX9_takeCol 21 = .ok (.ireturn, 1) := by decide +kernel
abbrev M_X9_takeCol : mM := (cX9_takeCol, 5, RX9, some .int, false, 2, 50, 0, 0)
theorem gX9_takeCol : cI yX9_takeCol M_X9_takeCol 3 := ⟨(wsl_18 _ (List.mem_of_getElem? (i := 17) rfl)), (wsl_18 _ (List.mem_of_getElem? (i := 18) rfl)), (wsl_1 _ (List.mem_of_getElem? (i := 15) rfl)), (wsl_18 _ (List.mem_of_getElem? (i := 19) rfl)), by decide +kernel⟩
noncomputable def fX9_takeCol (h : hH) (a0 a1 a2 a3 : Int) : Option (Int × hH) :=
  (fX9_colHere h a0 a1 a2 a3).bind fun q4 =>
  if q4.1 = -1 then
    some (q4.1, q4.2)
  else
    (fX9_step q4.2 a0).bind fun h16 =>
    some (q4.1, h16)
section M_X9_takeCol
variable {p : Program} {l : Launch} {e : Env} {R : Room} {s : State} {m : MethodId} {args : Array Value} {below : List Frame} {meth : Method} {c : Code} {D : va_G} {G : gG} {A : Nat → Prop} {H0 : Heap} {n0 : Int} {x : Option vV × hH} {h : hH}
set_option maxRecDepth 100000 in
set_option maxHeartbeats 4000000 in
theorem oX9_takeCol_b0 {a0 a1 a2 a3 : Int} {K : Int × hH → Prop} (k0 : ∀ r, K (r) → x = (some (0, r.1), r.2)) {r : Int × hH} (hr : fX9_takeCol h a0 a1 a2 a3 = some r) (hk : K r) : Wq p l e R s m args below meth c D G A H0 true n0 M_X9_takeCol x 0 0 0 [(0, (19, a0)), (1, (14, a1)), (2, (0, a2)), (3, (0, a3))] [] h := by
  unfold fX9_takeCol at hr
  refine r_aload_n dX9_takeCol_0 rfl 0 rfl (nl rfl) ?_
  refine r_aload_n dX9_takeCol_1 rfl 1 rfl (nl rfl) ?_
  refine r_iload_n dX9_takeCol_2 rfl 2 rfl (Or.inl rfl) ?_
  refine r_iload_n dX9_takeCol_3 rfl 3 rfl (Or.inl rfl) ?_
  obtain ⟨q4, hg4, hr⟩ := bnd hr
  refine k_V (ci := 9) (o := a0) (T := TX9) (as := [(14, a1), (0, a2), (0, a3)]) (rest := []) (X := (some (0, q4.1), q4.2)) (oX9_colHere hg4) gX9_colHere rfl (by decide) rfl (wsl_18 _ (List.mem_of_getElem? (i := 20) rfl)) rfl dX9_takeCol_4 rfl ?_
  refine r_istore dX9_takeCol_7 (Or.inl rfl) (by decide) (lv' := [(4, (0, q4.1)), (0, (19, a0)), (1, (14, a1)), (2, (0, a2)), (3, (0, a3))]) rfl ?_
  refine r_iload dX9_takeCol_9 0 rfl (Or.inl rfl) ?_
  refine r_iconst dX9_takeCol_11 (by decide) ?_
  refine r_icmp_eq dX9_takeCol_12 (tgt := 19) (by decide) (fun hc => ?_) (fun hc => ?_)
  · have hr := ifp hr hc
    refine r_iload dX9_takeCol_19 0 rfl (Or.inl rfl) ?_
    obtain rfl := Option.some.inj hr
    exact r_ret dX9_takeCol_21 rfl (Or.inl ⟨rfl, rfl⟩) (k0 _ hk) ⟨rfl, rfl⟩
  · have hr := ifn hr hc
    refine r_aload_n dX9_takeCol_15 rfl 1 rfl (nl rfl) ?_
    obtain ⟨h16, hg16, hr⟩ := bnd hr
    refine k_V (ci := 9) (o := a0) (T := TX9) (as := []) (rest := []) (X := (none, h16)) (oX9_step hg16) gX9_step rfl (by decide) rfl (wsl_15 _ (List.mem_of_getElem? (i := 17) rfl)) rfl dX9_takeCol_16 rfl ?_
    refine r_iload dX9_takeCol_19 0 rfl (Or.inl rfl) ?_
    obtain rfl := Option.some.inj hr
    exact r_ret dX9_takeCol_21 rfl (Or.inl ⟨rfl, rfl⟩) (k0 _ hk) ⟨rfl, rfl⟩
end M_X9_takeCol
theorem oX9_takeCol {l : Launch} {D : va_G} {G : gG} {h : hH} {a0 a1 a2 a3 : Int} {r : Int × hH} (hr : fX9_takeCol h a0 a1 a2 a3 = some r) : Ctr l D G true yX9_takeCol M_X9_takeCol [(19, a0), (14, a1), (0, a2), (0, a3)] h (some (0, r.1), r.2) :=
  Ctr_of (by decide) rfl (fun z => by cases z) (nl rfl) (fun {p e R s m args below meth c A H0} => by
    exact oX9_takeCol_b0 (K := fun z9 => z9 = r) (fun r9 z => by rw [z]) hr rfl)
/-! X2_readSets -/
theorem dX2_readSets_0 : decode cX2_readSets 0 = .ok (.iconst (-1), 1) := by decide +kernel
theorem dX2_readSets_1 : decode cX2_readSets 1 = .ok (.istore_n 3, 1) := by decide +kernel
theorem dX2_readSets_2 : decode cX2_readSets 2 = .ok (.iconst 0, 1) := by decide +kernel
theorem dX2_readSets_3 : decode cX2_readSets 3 = .ok (.istore 4, 2) := by decide +kernel
theorem dX2_readSets_5 : decode cX2_readSets 5 = .ok (.iload 4, 2) := by decide +kernel
theorem dX2_readSets_7 : decode cX2_readSets 7 = .ok (.iconst 2, 1) := by decide +kernel
theorem dX2_readSets_8 : decode cX2_readSets 8 = .ok (.if_icmp .ge 102, 3) := by decide +kernel
theorem dX2_readSets_11 : decode cX2_readSets 11 = .ok (.iload 4, 2) := by decide +kernel
theorem dX2_readSets_13 : decode cX2_readSets 13 = .ok (.ifCond .eq 14, 3) := by decide +kernel
theorem dX2_readSets_16 : decode cX2_readSets 16 = .ok (.aload_n 0, 1) := by decide +kernel
theorem dX2_readSets_17 : decode cX2_readSets 17 = .ok (.getfield 15, 3) := by decide +kernel
theorem dX2_readSets_20 : decode cX2_readSets 20 = .ok (.getfield 49, 3) := by decide +kernel
theorem dX2_readSets_23 : decode cX2_readSets 23 = .ok (.iconst 4, 1) := by decide +kernel
theorem dX2_readSets_24 : decode cX2_readSets 24 = .ok (.if_icmp .ne 86, 3) := by decide +kernel
theorem dX2_readSets_27 : decode cX2_readSets 27 = .ok (.aload_n 0, 1) := by decide +kernel
theorem dX2_readSets_28 : decode cX2_readSets 28 = .ok (.getfield 15, 3) := by decide +kernel
theorem dX2_readSets_31 : decode cX2_readSets 31 = .ok (.aload_n 0, 1) := by decide +kernel
theorem dX2_readSets_32 : decode cX2_readSets 32 = .ok (.getfield 19, 3) := by decide +kernel
theorem dX2_readSets_35 : decode cX2_readSets 35 = .ok (.iload_n 2, 1) := by decide +kernel
theorem dX2_readSets_36 : decode cX2_readSets 36 = .ok (.iload_n 3, 1) := by decide +kernel
theorem dX2_readSets_37 : decode cX2_readSets 37 = .ok (.invokevirtual 98, 3) := by decide +kernel
theorem dX2_readSets_40 : decode cX2_readSets 40 = .ok (.istore 5, 2) := by decide +kernel
theorem dX2_readSets_42 : decode cX2_readSets 42 = .ok (.iload 5, 2) := by decide +kernel
theorem dX2_readSets_44 : decode cX2_readSets 44 = .ok (.iconst (-1), 1) := by decide +kernel
theorem dX2_readSets_45 : decode cX2_readSets 45 = .ok (.if_icmp .ne 7, 3) := by decide +kernel
theorem dX2_readSets_48 : decode cX2_readSets 48 = .ok (.iconst (-1), 1) := by decide +kernel
theorem dX2_readSets_49 : decode cX2_readSets 49 = .ok (.goto 10, 3) := by decide +kernel
theorem dX2_readSets_52 : decode cX2_readSets 52 = .ok (.aload_n 0, 1) := by decide +kernel
theorem dX2_readSets_53 : decode cX2_readSets 53 = .ok (.getfield 15, 3) := by decide +kernel
theorem dX2_readSets_56 : decode cX2_readSets 56 = .ok (.invokevirtual 91, 3) := by decide +kernel
theorem dX2_readSets_59 : decode cX2_readSets 59 = .ok (.istore 6, 2) := by decide +kernel
theorem dX2_readSets_61 : decode cX2_readSets 61 = .ok (.aload_n 0, 1) := by decide +kernel
theorem dX2_readSets_62 : decode cX2_readSets 62 = .ok (.getfield 15, 3) := by decide +kernel
theorem dX2_readSets_65 : decode cX2_readSets 65 = .ok (.getfield 95, 3) := by decide +kernel
theorem dX2_readSets_68 : decode cX2_readSets 68 = .ok (.ifCond .eq 5, 3) := by decide +kernel
theorem dX2_readSets_71 : decode cX2_readSets 71 = .ok (.iconst 0, 1) := by decide +kernel
theorem dX2_readSets_72 : decode cX2_readSets 72 = .ok (.ireturn, 1) := by decide +kernel
theorem dX2_readSets_73 : decode cX2_readSets 73 = .ok (.aload_n 0, 1) := by decide +kernel
theorem dX2_readSets_74 : decode cX2_readSets 74 = .ok (.iload_n 1, 1) := by decide +kernel
theorem dX2_readSets_75 : decode cX2_readSets 75 = .ok (.iconst 3, 1) := by decide +kernel
theorem dX2_readSets_76 : decode cX2_readSets 76 = .ok (.iconst 2, 1) := by decide +kernel
theorem dX2_readSets_77 : decode cX2_readSets 77 = .ok (.iload 4, 2) := by decide +kernel
theorem dX2_readSets_79 : decode cX2_readSets 79 = .ok (.imul, 1) := by decide +kernel
theorem dX2_readSets_80 : decode cX2_readSets 80 = .ok (.iadd, 1) := by decide +kernel
theorem dX2_readSets_81 : decode cX2_readSets 81 = .ok (.iload 5, 2) := by decide +kernel
theorem dX2_readSets_83 : decode cX2_readSets 83 = .ok (.invokevirtual 31, 3) := by decide +kernel
theorem dX2_readSets_86 : decode cX2_readSets 86 = .ok (.aload_n 0, 1) := by decide +kernel
theorem dX2_readSets_87 : decode cX2_readSets 87 = .ok (.iload_n 1, 1) := by decide +kernel
theorem dX2_readSets_88 : decode cX2_readSets 88 = .ok (.iconst 3, 1) := by decide +kernel
theorem dX2_readSets_89 : decode cX2_readSets 89 = .ok (.iconst 2, 1) := by decide +kernel
theorem dX2_readSets_90 : decode cX2_readSets 90 = .ok (.iload 4, 2) := by decide +kernel
theorem dX2_readSets_92 : decode cX2_readSets 92 = .ok (.imul, 1) := by decide +kernel
theorem dX2_readSets_93 : decode cX2_readSets 93 = .ok (.iadd, 1) := by decide +kernel
theorem dX2_readSets_94 : decode cX2_readSets 94 = .ok (.iconst 1, 1) := by decide +kernel
theorem dX2_readSets_95 : decode cX2_readSets 95 = .ok (.iadd, 1) := by decide +kernel
theorem dX2_readSets_96 : decode cX2_readSets 96 = .ok (.iload 6, 2) := by decide +kernel
theorem dX2_readSets_98 : decode cX2_readSets 98 = .ok (.invokevirtual 31, 3) := by decide +kernel
theorem dX2_readSets_101 : decode cX2_readSets 101 = .ok (.iload 5, 2) := by decide +kernel
theorem dX2_readSets_103 : decode cX2_readSets 103 = .ok (.istore_n 3, 1) := by decide +kernel
theorem dX2_readSets_104 : decode cX2_readSets 104 = .ok (.iinc 4 1, 3) := by decide +kernel
theorem dX2_readSets_107 : decode cX2_readSets 107 = .ok (.goto (-102), 3) := by decide +kernel
theorem dX2_readSets_110 : decode cX2_readSets 110 = .ok (.iconst 1, 1) := by decide +kernel
theorem dX2_readSets_111 : decode cX2_readSets 111 = .ok (.ireturn, 1) := by decide +kernel
abbrev M_X2_readSets : mM := (cX2_readSets, 7, RX2, some .boolean, false, 3, 74, 0, 0)
theorem gX2_readSets : cI yX2_readSets M_X2_readSets 2 := ⟨(wsl_31 _ (List.mem_of_getElem? (i := 16) rfl)), (wsl_31 _ (List.mem_of_getElem? (i := 17) rfl)), (wsl_2 _ (List.mem_of_getElem? (i := 15) rfl)), (wsl_31 _ (List.mem_of_getElem? (i := 18) rfl)), by decide +kernel⟩
noncomputable def fX2_readSets_b59 (h : hH) (a0 a1 a2 l4 l5 s0 : Int) : Option ((hH × Int × Int) ⊕ (Int × hH)) :=
  if h (h a0 0) 8 = 0 then
    (fX2_setPart h a0 a1 (w32 (3 + (w32 (2 * l4)))) l5).bind fun h83 =>
    (fX2_setPart h83 a0 a1 (w32 ((w32 (3 + (w32 (2 * l4)))) + 1)) s0).bind fun h98 =>
    some (.inl (h98, l5, w32 (l4 + 1)))
  else
    some (.inr ((0, h)))
noncomputable def fX2_readSets_b27 (h : hH) (a0 a1 a2 l3 l4 : Int) : Option ((hH × Int × Int) ⊕ (Int × hH)) :=
  (fX9_takeCol h (h a0 0) (h a0 1) a2 l3).bind fun q37 =>
  if q37.1 = -1 then
    fX2_readSets_b59 q37.2 a0 a1 a2 l4 q37.1 (-1)
  else
    (fX9_takeValue q37.2 (q37.2 a0 0)).bind fun q56 =>
    fX2_readSets_b59 q56.2 a0 a1 a2 l4 q37.1 q56.1
noncomputable def fX2_readSets_s5 (h0 : hH) (a0 a1 a2 : Int) : hH × Int × Int → Option ((hH × Int × Int) ⊕ (Int × hH)) := fun (h, l3, l4) =>
  if l4 < 2 then
    if l4 = 0 then
      fX2_readSets_b27 h a0 a1 a2 l3 l4
    else
      if h (h a0 0) 5 = 4 then
        fX2_readSets_b27 h a0 a1 a2 l3 l4
      else
        some (.inr ((1, h)))
  else
    some (.inr ((1, h)))
noncomputable def fX2_readSets (h : hH) (a0 a1 a2 : Int) : Option (Int × hH) :=
  lpO (fX2_readSets_s5 h a0 a1 a2) (h, -1, 0)
section M_X2_readSets
variable {p : Program} {l : Launch} {e : Env} {R : Room} {s : State} {m : MethodId} {args : Array Value} {below : List Frame} {meth : Method} {c : Code} {D : va_G} {G : gG} {A : Nat → Prop} {H0 : Heap} {n0 : Int} {x : Option vV × hH} {h : hH}
set_option maxRecDepth 100000 in
set_option maxHeartbeats 4000000 in
theorem oX2_readSets_b59 {a0 a1 a2 l4 l5 s0 : Int} {K : (hH × Int × Int) ⊕ (Int × hH) → Prop} (k0 : ∀ r, K (.inr (r)) → x = (some (2, r.1), r.2)) (k1 : ∀ (h : hH) (l3 : Int) (l4 : Int), K (.inl (h, l3, l4)) → Wq p l e R s m args below meth c D G A H0 true n0 M_X2_readSets x 0 0 5 [(0, (12, a0)), (1, (0, a1)), (2, (0, a2)), (3, (0, l3)), (4, (0, l4))] [] h) {r : (hH × Int × Int) ⊕ (Int × hH)} (hr : fX2_readSets_b59 h a0 a1 a2 l4 l5 s0 = some r) (hk : K r) : Wq p l e R s m args below meth c D G A H0 true n0 M_X2_readSets x 0 0 59 [(0, (12, a0)), (1, (0, a1)), (2, (0, a2)), (4, (0, l4)), (5, (0, l5))] [(0, s0)] h := by
  unfold fX2_readSets_b59 at hr
  refine r_istore dX2_readSets_59 (Or.inl rfl) (by decide) (lv' := [(6, (0, s0)), (0, (12, a0)), (1, (0, a1)), (2, (0, a2)), (4, (0, l4)), (5, (0, l5))]) rfl ?_
  refine r_aload_n dX2_readSets_61 rfl 1 rfl (nl rfl) ?_
  refine r_get 2 0 (o := a0) (w := (19, h a0 0)) (T := TX2) (ref := "FollowingRefs$Lines") rfl (by decide) rfl (by decide) inlX2 (wsl_5 _ (List.mem_of_getElem? (i := 14) rfl)) rfl dX2_readSets_62 rfl ?_
  refine r_get 9 8 (o := h a0 0) (w := (0, h (h a0 0) 8)) (T := TX9) (ref := "FollowingRefs$Text") rfl (by decide) rfl (by decide) inlX9 (wsl_30 _ (List.mem_of_getElem? (i := 17) rfl)) rfl dX2_readSets_65 rfl ?_
  refine r_if_eq dX2_readSets_68 (tgt := 73) (by decide) (fun hc => ?_) (fun hc => ?_)
  · have hr := ifp hr hc
    refine r_aload_n dX2_readSets_73 rfl 1 rfl (nl rfl) ?_
    refine r_iload_n dX2_readSets_74 rfl 2 rfl (Or.inl rfl) ?_
    refine r_iconst dX2_readSets_75 (by decide) ?_
    refine r_iconst dX2_readSets_76 (by decide) ?_
    refine r_iload dX2_readSets_77 4 rfl (Or.inl rfl) ?_
    refine r_imul dX2_readSets_79 ?_
    refine r_iadd dX2_readSets_80 ?_
    refine r_iload dX2_readSets_81 5 rfl (Or.inl rfl) ?_
    obtain ⟨h83, hg83, hr⟩ := bnd hr
    refine k_V (ci := 2) (o := a0) (T := TX2) (as := [(0, a1), (0, w32 (3 + (w32 (2 * l4)))), (0, l5)]) (rest := []) (X := (none, h83)) (oX2_setPart hg83) gX2_setPart rfl (by decide) rfl (wsl_30 _ (List.mem_of_getElem? (i := 9) rfl)) rfl dX2_readSets_83 rfl ?_
    refine r_aload_n dX2_readSets_86 rfl 1 rfl (nl rfl) ?_
    refine r_iload_n dX2_readSets_87 rfl 2 rfl (Or.inl rfl) ?_
    refine r_iconst dX2_readSets_88 (by decide) ?_
    refine r_iconst dX2_readSets_89 (by decide) ?_
    refine r_iload dX2_readSets_90 4 rfl (Or.inl rfl) ?_
    refine r_imul dX2_readSets_92 ?_
    refine r_iadd dX2_readSets_93 ?_
    refine r_iconst dX2_readSets_94 (by decide) ?_
    refine r_iadd dX2_readSets_95 ?_
    refine r_iload dX2_readSets_96 0 rfl (Or.inl rfl) ?_
    obtain ⟨h98, hg98, hr⟩ := bnd hr
    refine k_V (ci := 2) (o := a0) (T := TX2) (as := [(0, a1), (0, w32 ((w32 (3 + (w32 (2 * l4)))) + 1)), (0, s0)]) (rest := []) (X := (none, h98)) (oX2_setPart hg98) gX2_setPart rfl (by decide) rfl (wsl_30 _ (List.mem_of_getElem? (i := 9) rfl)) rfl dX2_readSets_98 rfl ?_
    refine r_iload dX2_readSets_101 5 rfl (Or.inl rfl) ?_
    refine r_istore_n dX2_readSets_103 rfl (Or.inl rfl) (by decide) (lv' := [(3, (0, l5)), (6, (0, s0)), (0, (12, a0)), (1, (0, a1)), (2, (0, a2)), (4, (0, l4)), (5, (0, l5))]) rfl ?_
    refine r_iinc (k := 5) (v := l4) dX2_readSets_104 rfl (by decide) (lv' := [(4, (0, w32 (l4 + 1))), (3, (0, l5)), (6, (0, s0)), (0, (12, a0)), (1, (0, a1)), (2, (0, a2)), (5, (0, l5))]) rfl ?_
    refine r_goto dX2_readSets_107 (tgt := 5) (by decide) ?_
    refine r_sub [3, 4, 5, 1, 0] (lv' := [(0, (12, a0)), (1, (0, a1)), (2, (0, a2)), (3, (0, l5)), (4, (0, w32 (l4 + 1)))]) rfl ?_
    obtain rfl := Option.some.inj hr
    exact k1 _ _ _ hk
  · have hr := ifn hr hc
    refine r_iconst dX2_readSets_71 (by decide) ?_
    refine r_scast 0 (v := (0, 0)) (w := (2, 0)) rfl cz (fun _ => Or.inl rfl) (st' := [(2, 0)]) rfl ?_
    obtain rfl := Option.some.inj hr
    exact r_ret dX2_readSets_72 rfl (Or.inr ⟨rfl, rfl⟩) (k0 _ hk) ⟨rfl, rfl⟩
set_option maxRecDepth 100000 in
set_option maxHeartbeats 4000000 in
theorem oX2_readSets_b27 {a0 a1 a2 l3 l4 : Int} {K : (hH × Int × Int) ⊕ (Int × hH) → Prop} (k0 : ∀ r, K (.inr (r)) → x = (some (2, r.1), r.2)) (k1 : ∀ (h : hH) (l3 : Int) (l4 : Int), K (.inl (h, l3, l4)) → Wq p l e R s m args below meth c D G A H0 true n0 M_X2_readSets x 0 0 5 [(0, (12, a0)), (1, (0, a1)), (2, (0, a2)), (3, (0, l3)), (4, (0, l4))] [] h) {r : (hH × Int × Int) ⊕ (Int × hH)} (hr : fX2_readSets_b27 h a0 a1 a2 l3 l4 = some r) (hk : K r) : Wq p l e R s m args below meth c D G A H0 true n0 M_X2_readSets x 0 0 27 [(0, (12, a0)), (1, (0, a1)), (2, (0, a2)), (3, (0, l3)), (4, (0, l4))] [] h := by
  unfold fX2_readSets_b27 at hr
  refine r_aload_n dX2_readSets_27 rfl 0 rfl (nl rfl) ?_
  refine r_get 2 0 (o := a0) (w := (19, h a0 0)) (T := TX2) (ref := "FollowingRefs$Lines") rfl (by decide) rfl (by decide) inlX2 (wsl_5 _ (List.mem_of_getElem? (i := 14) rfl)) rfl dX2_readSets_28 rfl ?_
  refine r_aload_n dX2_readSets_31 rfl 0 rfl (nl rfl) ?_
  refine r_get 2 1 (o := a0) (w := (14, h a0 1)) (T := TX2) (ref := "FollowingRefs$Lines") rfl (by decide) rfl (by decide) inlX2 (wsl_5 _ (List.mem_of_getElem? (i := 15) rfl)) rfl dX2_readSets_32 rfl ?_
  refine r_iload_n dX2_readSets_35 rfl 2 rfl (Or.inl rfl) ?_
  refine r_iload_n dX2_readSets_36 rfl 3 rfl (Or.inl rfl) ?_
  obtain ⟨q37, hg37, hr⟩ := bnd hr
  refine k_V (ci := 9) (o := h a0 0) (T := TX9) (as := [(14, h a0 1), (0, a2), (0, l3)]) (rest := []) (X := (some (0, q37.1), q37.2)) (oX9_takeCol hg37) gX9_takeCol rfl (by decide) rfl (wsl_31 _ (List.mem_of_getElem? (i := 19) rfl)) rfl dX2_readSets_37 rfl ?_
  refine r_istore dX2_readSets_40 (Or.inl rfl) (by decide) (lv' := [(5, (0, q37.1)), (0, (12, a0)), (1, (0, a1)), (2, (0, a2)), (3, (0, l3)), (4, (0, l4))]) rfl ?_
  refine r_iload dX2_readSets_42 0 rfl (Or.inl rfl) ?_
  refine r_iconst dX2_readSets_44 (by decide) ?_
  refine r_icmp_ne dX2_readSets_45 (tgt := 52) (by decide) (fun hc => ?_) (fun hc => ?_)
  · have hr := ifn hr hc
    refine r_aload_n dX2_readSets_52 rfl 1 rfl (nl rfl) ?_
    refine r_get 2 0 (o := a0) (w := (19, q37.2 a0 0)) (T := TX2) (ref := "FollowingRefs$Lines") rfl (by decide) rfl (by decide) inlX2 (wsl_5 _ (List.mem_of_getElem? (i := 14) rfl)) rfl dX2_readSets_53 rfl ?_
    obtain ⟨q56, hg56, hr⟩ := bnd hr
    refine k_V (ci := 9) (o := q37.2 a0 0) (T := TX9) (as := []) (rest := []) (X := (some (0, q56.1), q56.2)) (oX9_takeValue hg56) gX9_takeValue rfl (by decide) rfl (wsl_30 _ (List.mem_of_getElem? (i := 19) rfl)) rfl dX2_readSets_56 rfl ?_
    refine r_sub [1, 2, 3, 5, 0] (lv' := [(0, (12, a0)), (1, (0, a1)), (2, (0, a2)), (4, (0, l4)), (5, (0, q37.1))]) rfl ?_
    exact oX2_readSets_b59 (K := K) (fun r z => k0 r z) (fun _ _ _ z => k1 _ _ _ z) hr hk
  · have hr := ifp hr hc
    refine r_iconst dX2_readSets_48 (by decide) ?_
    refine r_goto dX2_readSets_49 (tgt := 59) (by decide) ?_
    refine r_sub [1, 2, 3, 5, 0] (lv' := [(0, (12, a0)), (1, (0, a1)), (2, (0, a2)), (4, (0, l4)), (5, (0, q37.1))]) rfl ?_
    exact oX2_readSets_b59 (K := K) (fun r z => k0 r z) (fun _ _ _ z => k1 _ _ _ z) hr hk
set_option maxRecDepth 100000 in
set_option maxHeartbeats 4000000 in
theorem oX2_readSets_s5 {h0 : hH} {a0 a1 a2 l3 l4 : Int} {K : (hH × Int × Int) ⊕ (Int × hH) → Prop} (k0 : ∀ r, K (.inr (r)) → x = (some (2, r.1), r.2)) (k1 : ∀ (h : hH) (l3 : Int) (l4 : Int), K (.inl (h, l3, l4)) → Wq p l e R s m args below meth c D G A H0 true n0 M_X2_readSets x 0 0 5 [(0, (12, a0)), (1, (0, a1)), (2, (0, a2)), (3, (0, l3)), (4, (0, l4))] [] h) {r : (hH × Int × Int) ⊕ (Int × hH)} (hr : fX2_readSets_s5 h0 a0 a1 a2 (h, l3, l4) = some r) (hk : K r) : Wq p l e R s m args below meth c D G A H0 true n0 M_X2_readSets x 0 0 5 [(0, (12, a0)), (1, (0, a1)), (2, (0, a2)), (3, (0, l3)), (4, (0, l4))] [] h := by
  unfold fX2_readSets_s5 at hr
  refine r_iload dX2_readSets_5 4 rfl (Or.inl rfl) ?_
  refine r_iconst dX2_readSets_7 (by decide) ?_
  refine r_icmp_ge dX2_readSets_8 (tgt := 110) (by decide) (fun hc => ?_) (fun hc => ?_)
  · have hr := ifn hr hc
    refine r_iconst dX2_readSets_110 (by decide) ?_
    refine r_scast 0 (v := (0, 1)) (w := (2, 1)) rfl cz (fun _ => Or.inr rfl) (st' := [(2, 1)]) rfl ?_
    obtain rfl := Option.some.inj hr
    exact r_ret dX2_readSets_111 rfl (Or.inr ⟨rfl, rfl⟩) (k0 _ hk) ⟨rfl, rfl⟩
  · have hr := ifp hr hc
    refine r_iload dX2_readSets_11 4 rfl (Or.inl rfl) ?_
    refine r_if_eq dX2_readSets_13 (tgt := 27) (by decide) (fun hc => ?_) (fun hc => ?_)
    · have hr := ifp hr hc
      exact oX2_readSets_b27 (K := K) (fun r z => k0 r z) (fun _ _ _ z => k1 _ _ _ z) hr hk
    · have hr := ifn hr hc
      refine r_aload_n dX2_readSets_16 rfl 0 rfl (nl rfl) ?_
      refine r_get 2 0 (o := a0) (w := (19, h a0 0)) (T := TX2) (ref := "FollowingRefs$Lines") rfl (by decide) rfl (by decide) inlX2 (wsl_5 _ (List.mem_of_getElem? (i := 14) rfl)) rfl dX2_readSets_17 rfl ?_
      refine r_get 9 5 (o := h a0 0) (w := (0, h (h a0 0) 5)) (T := TX9) (ref := "FollowingRefs$Text") rfl (by decide) rfl (by decide) inlX9 (wsl_29 _ (List.mem_of_getElem? (i := 17) rfl)) rfl dX2_readSets_20 rfl ?_
      refine r_iconst dX2_readSets_23 (by decide) ?_
      refine r_icmp_ne dX2_readSets_24 (tgt := 110) (by decide) (fun hc => ?_) (fun hc => ?_)
      · have hr := ifn hr hc
        refine r_iconst dX2_readSets_110 (by decide) ?_
        refine r_scast 0 (v := (0, 1)) (w := (2, 1)) rfl cz (fun _ => Or.inr rfl) (st' := [(2, 1)]) rfl ?_
        obtain rfl := Option.some.inj hr
        exact r_ret dX2_readSets_111 rfl (Or.inr ⟨rfl, rfl⟩) (k0 _ hk) ⟨rfl, rfl⟩
      · have hr := ifp hr hc
        exact oX2_readSets_b27 (K := K) (fun r z => k0 r z) (fun _ _ _ z => k1 _ _ _ z) hr hk
set_option maxRecDepth 100000 in
set_option maxHeartbeats 4000000 in
theorem oX2_readSets_b0 {a0 a1 a2 : Int} {K : Int × hH → Prop} (k0 : ∀ r, K (r) → x = (some (2, r.1), r.2)) {r : Int × hH} (hr : fX2_readSets h a0 a1 a2 = some r) (hk : K r) : Wq p l e R s m args below meth c D G A H0 true n0 M_X2_readSets x 0 0 0 [(0, (12, a0)), (1, (0, a1)), (2, (0, a2))] [] h := by
  unfold fX2_readSets at hr
  refine r_iconst dX2_readSets_0 (by decide) ?_
  refine r_istore_n dX2_readSets_1 rfl (Or.inl rfl) (by decide) (lv' := [(3, (0, -1)), (0, (12, a0)), (1, (0, a1)), (2, (0, a2))]) rfl ?_
  refine r_iconst dX2_readSets_2 (by decide) ?_
  refine r_istore dX2_readSets_3 (Or.inl rfl) (by decide) (lv' := [(4, (0, 0)), (3, (0, -1)), (0, (12, a0)), (1, (0, a1)), (2, (0, a2))]) rfl ?_
  refine r_sub [2, 3, 4, 1, 0] (lv' := [(0, (12, a0)), (1, (0, a1)), (2, (0, a2)), (3, (0, -1)), (4, (0, 0))]) rfl ?_
  exact lp_ok (w := fun (q : hH × Int × Int) => Wq p l e R s m args below meth c D G A H0 true n0 M_X2_readSets x 0 0 5 [(0, (12, a0)), (1, (0, a1)), (2, (0, a2)), (3, (0, q.2.1)), (4, (0, q.2.2))] [] (q.1)) (K := K) (fun ⟨q0, q1, q2⟩ r h1 h2 => oX2_readSets_s5 (K := Sum.elim (fun (q : hH × Int × Int) => Wq p l e R s m args below meth c D G A H0 true n0 M_X2_readSets x 0 0 5 [(0, (12, a0)), (1, (0, a1)), (2, (0, a2)), (3, (0, q.2.1)), (4, (0, q.2.2))] [] (q.1)) (K)) (fun r z => k0 r z) (fun _ _ _ z => z) h1 h2) hr hk
end M_X2_readSets
theorem oX2_readSets {l : Launch} {D : va_G} {G : gG} {h : hH} {a0 a1 a2 : Int} {r : Int × hH} (hr : fX2_readSets h a0 a1 a2 = some r) : Ctr l D G true yX2_readSets M_X2_readSets [(12, a0), (0, a1), (0, a2)] h (some (2, r.1), r.2) :=
  Ctr_of (by decide) rfl (fun z => by cases z) (nl rfl) (fun {p e R s m args below meth c A H0} => by
    exact oX2_readSets_b0 (K := fun z9 => z9 = r) (fun r9 z => by rw [z]) hr rfl)
/-! X2_readLine -/
theorem dX2_readLine_0 : decode cX2_readLine 0 = .ok (.aload_n 0, 1) := by decide +kernel
theorem dX2_readLine_1 : decode cX2_readLine 1 = .ok (.getfield 39, 3) := by decide +kernel
theorem dX2_readLine_4 : decode cX2_readLine 4 = .ok (.istore_n 2, 1) := by decide +kernel
theorem dX2_readLine_5 : decode cX2_readLine 5 = .ok (.iload_n 1, 1) := by decide +kernel
theorem dX2_readLine_6 : decode cX2_readLine 6 = .ok (.invokestatic 52, 3) := by decide +kernel
theorem dX2_readLine_9 : decode cX2_readLine 9 = .ok (.istore_n 3, 1) := by decide +kernel
theorem dX2_readLine_10 : decode cX2_readLine 10 = .ok (.iload_n 3, 1) := by decide +kernel
theorem dX2_readLine_11 : decode cX2_readLine 11 = .ok (.ifCond .eq 17, 3) := by decide +kernel
theorem dX2_readLine_14 : decode cX2_readLine 14 = .ok (.aload_n 0, 1) := by decide +kernel
theorem dX2_readLine_15 : decode cX2_readLine 15 = .ok (.getfield 15, 3) := by decide +kernel
theorem dX2_readLine_18 : decode cX2_readLine 18 = .ok (.aload_n 0, 1) := by decide +kernel
theorem dX2_readLine_19 : decode cX2_readLine 19 = .ok (.getfield 19, 3) := by decide +kernel
theorem dX2_readLine_22 : decode cX2_readLine 22 = .ok (.invokevirtual 68, 3) := by decide +kernel
theorem dX2_readLine_25 : decode cX2_readLine 25 = .ok (.goto 4, 3) := by decide +kernel
theorem dX2_readLine_28 : decode cX2_readLine 28 = .ok (.iconst (-1), 1) := by decide +kernel
theorem dX2_readLine_29 : decode cX2_readLine 29 = .ok (.istore 4, 2) := by decide +kernel
theorem dX2_readLine_31 : decode cX2_readLine 31 = .ok (.iload_n 3, 1) := by decide +kernel
theorem dX2_readLine_32 : decode cX2_readLine 32 = .ok (.ifCond .eq 11, 3) := by decide +kernel
theorem dX2_readLine_35 : decode cX2_readLine 35 = .ok (.iload 4, 2) := by decide +kernel
theorem dX2_readLine_37 : decode cX2_readLine 37 = .ok (.iconst (-1), 1) := by decide +kernel
theorem dX2_readLine_38 : decode cX2_readLine 38 = .ok (.if_icmp .ne 5, 3) := by decide +kernel
theorem dX2_readLine_41 : decode cX2_readLine 41 = .ok (.iconst 0, 1) := by decide +kernel
theorem dX2_readLine_42 : decode cX2_readLine 42 = .ok (.ireturn, 1) := by decide +kernel
theorem dX2_readLine_43 : decode cX2_readLine 43 = .ok (.aload_n 0, 1) := by decide +kernel
theorem dX2_readLine_44 : decode cX2_readLine 44 = .ok (.iload_n 2, 1) := by decide +kernel
theorem dX2_readLine_45 : decode cX2_readLine 45 = .ok (.iload_n 1, 1) := by decide +kernel
theorem dX2_readLine_46 : decode cX2_readLine 46 = .ok (.iload 4, 2) := by decide +kernel
theorem dX2_readLine_48 : decode cX2_readLine 48 = .ok (.invokevirtual 72, 3) := by decide +kernel
theorem dX2_readLine_51 : decode cX2_readLine 51 = .ok (.aload_n 0, 1) := by decide +kernel
theorem dX2_readLine_52 : decode cX2_readLine 52 = .ok (.dup, 1) := by decide +kernel
theorem dX2_readLine_53 : decode cX2_readLine 53 = .ok (.getfield 39, 3) := by decide +kernel
theorem dX2_readLine_56 : decode cX2_readLine 56 = .ok (.iconst 1, 1) := by decide +kernel
theorem dX2_readLine_57 : decode cX2_readLine 57 = .ok (.iadd, 1) := by decide +kernel
theorem dX2_readLine_58 : decode cX2_readLine 58 = .ok (.putfield 39, 3) := by decide +kernel
theorem dX2_readLine_61 : decode cX2_readLine 61 = .ok (.iload_n 1, 1) := by decide +kernel
theorem dX2_readLine_62 : decode cX2_readLine 62 = .ok (.tableswitch 76 141 145 #[34, 42, 76, 76, 50], 34) := by decide +kernel
theorem dX2_readLine_96 : decode cX2_readLine 96 = .ok (.aload_n 0, 1) := by decide +kernel
theorem dX2_readLine_97 : decode cX2_readLine 97 = .ok (.iload_n 2, 1) := by decide +kernel
theorem dX2_readLine_98 : decode cX2_readLine 98 = .ok (.iload 4, 2) := by decide +kernel
theorem dX2_readLine_100 : decode cX2_readLine 100 = .ok (.invokevirtual 75, 3) := by decide +kernel
theorem dX2_readLine_103 : decode cX2_readLine 103 = .ok (.ireturn, 1) := by decide +kernel
theorem dX2_readLine_104 : decode cX2_readLine 104 = .ok (.aload_n 0, 1) := by decide +kernel
theorem dX2_readLine_105 : decode cX2_readLine 105 = .ok (.iload_n 2, 1) := by decide +kernel
theorem dX2_readLine_106 : decode cX2_readLine 106 = .ok (.iload 4, 2) := by decide +kernel
theorem dX2_readLine_108 : decode cX2_readLine 108 = .ok (.invokevirtual 79, 3) := by decide +kernel
theorem dX2_readLine_111 : decode cX2_readLine 111 = .ok (.ireturn, 1) := by decide +kernel
theorem dX2_readLine_112 : decode cX2_readLine 112 = .ok (.aload_n 0, 1) := by decide +kernel
theorem dX2_readLine_113 : decode cX2_readLine 113 = .ok (.iload_n 2, 1) := by decide +kernel
theorem dX2_readLine_114 : decode cX2_readLine 114 = .ok (.iload 4, 2) := by decide +kernel
theorem dX2_readLine_116 : decode cX2_readLine 116 = .ok (.invokevirtual 82, 3) := by decide +kernel
theorem dX2_readLine_119 : decode cX2_readLine 119 = .ok (.ifCond .eq 17, 3) := by decide +kernel
theorem dX2_readLine_122 : decode cX2_readLine 122 = .ok (.aload_n 0, 1) := by decide +kernel
theorem dX2_readLine_123 : decode cX2_readLine 123 = .ok (.iload_n 2, 1) := by decide +kernel
theorem dX2_readLine_124 : decode cX2_readLine 124 = .ok (.iload 4, 2) := by decide +kernel
theorem dX2_readLine_126 : decode cX2_readLine 126 = .ok (.invokevirtual 79, 3) := by decide +kernel
theorem dX2_readLine_129 : decode cX2_readLine 129 = .ok (.ifCond .eq 7, 3) := by decide +kernel
theorem dX2_readLine_132 : decode cX2_readLine 132 = .ok (.iconst 1, 1) := by decide +kernel
theorem dX2_readLine_133 : decode cX2_readLine 133 = .ok (.goto 4, 3) := by decide +kernel
theorem dX2_readLine_136 : decode cX2_readLine 136 = .ok (.iconst 0, 1) := by decide +kernel
theorem dX2_readLine_137 : decode cX2_readLine 137 = .ok (.ireturn, 1) := by decide +kernel
theorem dX2_readLine_138 : decode cX2_readLine 138 = .ok (.iconst 1, 1) := by decide +kernel
theorem dX2_readLine_139 : decode cX2_readLine 139 = .ok (.ireturn, 1) := by decide +kernel
abbrev M_X2_readLine : mM := (cX2_readLine, 5, RX2, some .boolean, false, 4, 100, 0, 0)
theorem gX2_readLine : cI yX2_readLine M_X2_readLine 1 := ⟨(wsl_30 _ (List.mem_of_getElem? (i := 1) rfl)), (wsl_30 _ (List.mem_of_getElem? (i := 2) rfl)), (wsl_2 _ (List.mem_of_getElem? (i := 15) rfl)), (wsl_30 _ (List.mem_of_getElem? (i := 3) rfl)), by decide +kernel⟩
noncomputable def fX2_readLine_b43 (h : hH) (a0 a1 l2 l4 : Int) : Option (Int × hH) :=
  (fX2_startLine h a0 l2 a1 l4).bind fun h48 =>
  (pput h48 a0 2 (w32 ((h48 a0 2) + 1))).bind fun h58 =>
  if a1 = 141 then
    (fX2_readValues h58 a0 l2 l4).bind fun q100 =>
    some (q100.1, q100.2)
  else
    if a1 = 142 then
      (fX2_readConds h58 a0 l2 l4).bind fun q108 =>
      some (q108.1, q108.2)
    else
      if a1 = 143 then
        some (1, h58)
      else
        if a1 = 144 then
          some (1, h58)
        else
          if a1 = 145 then
            (fX2_readSets h58 a0 l2 l4).bind fun q116 =>
            if q116.1 = 0 then
              some (0, q116.2)
            else
              (fX2_readConds q116.2 a0 l2 l4).bind fun q126 =>
              if q126.1 = 0 then
                some (0, q126.2)
              else
                some (1, q126.2)
          else
            some (1, h58)
noncomputable def fX2_readLine_b29 (h : hH) (a0 a1 l2 l3 s0 : Int) : Option (Int × hH) :=
  if l3 = 0 then
    fX2_readLine_b43 h a0 a1 l2 s0
  else
    if s0 = -1 then
      some (0, h)
    else
      fX2_readLine_b43 h a0 a1 l2 s0
noncomputable def fX2_readLine (h : hH) (a0 a1 : Int) : Option (Int × hH) :=
  (fX2_startsStatement h a1).bind fun r6 =>
  if r6 = 0 then
    fX2_readLine_b29 h a0 a1 (h a0 2) r6 (-1)
  else
    (fX9_takeTable h (h a0 0) (h a0 1)).bind fun q22 =>
    fX2_readLine_b29 q22.2 a0 a1 (h a0 2) r6 q22.1
section M_X2_readLine
variable {p : Program} {l : Launch} {e : Env} {R : Room} {s : State} {m : MethodId} {args : Array Value} {below : List Frame} {meth : Method} {c : Code} {D : va_G} {G : gG} {A : Nat → Prop} {H0 : Heap} {n0 : Int} {x : Option vV × hH} {h : hH}
set_option maxRecDepth 100000 in
set_option maxHeartbeats 4000000 in
theorem oX2_readLine_b43 {a0 a1 l2 l4 : Int} {K : Int × hH → Prop} (k0 : ∀ r, K (r) → x = (some (2, r.1), r.2)) {r : Int × hH} (hr : fX2_readLine_b43 h a0 a1 l2 l4 = some r) (hk : K r) : Wq p l e R s m args below meth c D G A H0 true n0 M_X2_readLine x 0 0 43 [(0, (12, a0)), (1, (0, a1)), (2, (0, l2)), (4, (0, l4))] [] h := by
  unfold fX2_readLine_b43 at hr
  refine r_aload_n dX2_readLine_43 rfl 0 rfl (nl rfl) ?_
  refine r_iload_n dX2_readLine_44 rfl 2 rfl (Or.inl rfl) ?_
  refine r_iload_n dX2_readLine_45 rfl 1 rfl (Or.inl rfl) ?_
  refine r_iload dX2_readLine_46 3 rfl (Or.inl rfl) ?_
  obtain ⟨h48, hg48, hr⟩ := bnd hr
  refine k_V (ci := 2) (o := a0) (T := TX2) (as := [(0, l2), (0, a1), (0, l4)]) (rest := []) (X := (none, h48)) (oX2_startLine hg48) gX2_startLine rfl (by decide) rfl (wsl_30 _ (List.mem_of_getElem? (i := 5) rfl)) rfl dX2_readLine_48 rfl ?_
  refine r_aload_n dX2_readLine_51 rfl 0 rfl (nl rfl) ?_
  refine r_dup dX2_readLine_52 (Nat.ne_of_beq_eq_false rfl) ?_
  refine r_get 2 2 (o := a0) (w := (0, h48 a0 2)) (T := TX2) (ref := "FollowingRefs$Lines") rfl (by decide) rfl (by decide) inlX2 (wsl_29 _ (List.mem_of_getElem? (i := 16) rfl)) rfl dX2_readLine_53 rfl ?_
  refine r_iconst dX2_readLine_56 (by decide) ?_
  refine r_iadd dX2_readLine_57 ?_
  obtain ⟨h58, hg58, hr⟩ := bnd hr
  refine r_put' 2 2 (t := 0) (ref := "FollowingRefs$Lines") hg58 rfl tyX2 tyX2_ok nmX2 rfl (by decide) rfl (by decide) inlX2 (wsl_29 _ (List.mem_of_getElem? (i := 16) rfl)) rfl rfl (by decide +kernel) (by decide) rfl (Or.inl ⟨rfl, rfl⟩) dX2_readLine_58 ?_
  refine r_iload_n dX2_readLine_61 rfl 1 rfl (Or.inl rfl) ?_
  by_cases hs0 : a1 = 141
  · have hr := ifp hr hs0
    refine r_tableIn dX2_readLine_62 (by omega) (by omega) (off := 34) (by rw [hs0]; rfl) (tgt := 96) (by decide) ?_
    refine r_aload_n dX2_readLine_96 rfl 0 rfl (nl rfl) ?_
    refine r_iload_n dX2_readLine_97 rfl 2 rfl (Or.inl rfl) ?_
    refine r_iload dX2_readLine_98 3 rfl (Or.inl rfl) ?_
    obtain ⟨q100, hg100, hr⟩ := bnd hr
    refine k_V (ci := 2) (o := a0) (T := TX2) (as := [(0, l2), (0, l4)]) (rest := []) (X := (some (2, q100.1), q100.2)) (oX2_readValues hg100) gX2_readValues rfl (by decide) rfl (wsl_30 _ (List.mem_of_getElem? (i := 13) rfl)) rfl dX2_readLine_100 rfl ?_
    obtain rfl := Option.some.inj hr
    exact r_ret dX2_readLine_103 rfl (Or.inr ⟨rfl, rfl⟩) (k0 _ hk) ⟨rfl, rfl⟩
  have hr := ifn hr hs0
  by_cases hs1 : a1 = 142
  · have hr := ifp hr hs1
    refine r_tableIn dX2_readLine_62 (by omega) (by omega) (off := 42) (by rw [hs1]; rfl) (tgt := 104) (by decide) ?_
    refine r_aload_n dX2_readLine_104 rfl 0 rfl (nl rfl) ?_
    refine r_iload_n dX2_readLine_105 rfl 2 rfl (Or.inl rfl) ?_
    refine r_iload dX2_readLine_106 3 rfl (Or.inl rfl) ?_
    obtain ⟨q108, hg108, hr⟩ := bnd hr
    refine k_V (ci := 2) (o := a0) (T := TX2) (as := [(0, l2), (0, l4)]) (rest := []) (X := (some (2, q108.1), q108.2)) (oX2_readConds hg108) gX2_readConds rfl (by decide) rfl (wsl_31 _ (List.mem_of_getElem? (i := 0) rfl)) rfl dX2_readLine_108 rfl ?_
    obtain rfl := Option.some.inj hr
    exact r_ret dX2_readLine_111 rfl (Or.inr ⟨rfl, rfl⟩) (k0 _ hk) ⟨rfl, rfl⟩
  have hr := ifn hr hs1
  by_cases hs2 : a1 = 143
  · have hr := ifp hr hs2
    refine r_tableIn dX2_readLine_62 (by omega) (by omega) (off := 76) (by rw [hs2]; rfl) (tgt := 138) (by decide) ?_
    refine r_iconst dX2_readLine_138 (by decide) ?_
    refine r_scast 0 (v := (0, 1)) (w := (2, 1)) rfl cz (fun _ => Or.inr rfl) (st' := [(2, 1)]) rfl ?_
    obtain rfl := Option.some.inj hr
    exact r_ret dX2_readLine_139 rfl (Or.inr ⟨rfl, rfl⟩) (k0 _ hk) ⟨rfl, rfl⟩
  have hr := ifn hr hs2
  by_cases hs3 : a1 = 144
  · have hr := ifp hr hs3
    refine r_tableIn dX2_readLine_62 (by omega) (by omega) (off := 76) (by rw [hs3]; rfl) (tgt := 138) (by decide) ?_
    refine r_iconst dX2_readLine_138 (by decide) ?_
    refine r_scast 0 (v := (0, 1)) (w := (2, 1)) rfl cz (fun _ => Or.inr rfl) (st' := [(2, 1)]) rfl ?_
    obtain rfl := Option.some.inj hr
    exact r_ret dX2_readLine_139 rfl (Or.inr ⟨rfl, rfl⟩) (k0 _ hk) ⟨rfl, rfl⟩
  have hr := ifn hr hs3
  by_cases hs4 : a1 = 145
  · have hr := ifp hr hs4
    refine r_tableIn dX2_readLine_62 (by omega) (by omega) (off := 50) (by rw [hs4]; rfl) (tgt := 112) (by decide) ?_
    refine r_aload_n dX2_readLine_112 rfl 0 rfl (nl rfl) ?_
    refine r_iload_n dX2_readLine_113 rfl 2 rfl (Or.inl rfl) ?_
    refine r_iload dX2_readLine_114 3 rfl (Or.inl rfl) ?_
    obtain ⟨q116, hg116, hr⟩ := bnd hr
    refine k_V (ci := 2) (o := a0) (T := TX2) (as := [(0, l2), (0, l4)]) (rest := []) (X := (some (2, q116.1), q116.2)) (oX2_readSets hg116) gX2_readSets rfl (by decide) rfl (wsl_31 _ (List.mem_of_getElem? (i := 15) rfl)) rfl dX2_readLine_116 rfl ?_
    refine r_scast 0 (v := (2, q116.1)) (w := (0, q116.1)) rfl zc hTz (st' := [(0, q116.1)]) rfl ?_
    refine r_if_eq dX2_readLine_119 (tgt := 136) (by decide) (fun hc => ?_) (fun hc => ?_)
    · have hr := ifp hr hc
      refine r_iconst dX2_readLine_136 (by decide) ?_
      refine r_scast 0 (v := (0, 0)) (w := (2, 0)) rfl cz (fun _ => Or.inl rfl) (st' := [(2, 0)]) rfl ?_
      obtain rfl := Option.some.inj hr
      exact r_ret dX2_readLine_137 rfl (Or.inr ⟨rfl, rfl⟩) (k0 _ hk) ⟨rfl, rfl⟩
    · have hr := ifn hr hc
      refine r_aload_n dX2_readLine_122 rfl 0 rfl (nl rfl) ?_
      refine r_iload_n dX2_readLine_123 rfl 2 rfl (Or.inl rfl) ?_
      refine r_iload dX2_readLine_124 3 rfl (Or.inl rfl) ?_
      obtain ⟨q126, hg126, hr⟩ := bnd hr
      refine k_V (ci := 2) (o := a0) (T := TX2) (as := [(0, l2), (0, l4)]) (rest := []) (X := (some (2, q126.1), q126.2)) (oX2_readConds hg126) gX2_readConds rfl (by decide) rfl (wsl_31 _ (List.mem_of_getElem? (i := 0) rfl)) rfl dX2_readLine_126 rfl ?_
      refine r_scast 0 (v := (2, q126.1)) (w := (0, q126.1)) rfl zc hTz (st' := [(0, q126.1)]) rfl ?_
      refine r_if_eq dX2_readLine_129 (tgt := 136) (by decide) (fun hc => ?_) (fun hc => ?_)
      · have hr := ifp hr hc
        refine r_iconst dX2_readLine_136 (by decide) ?_
        refine r_scast 0 (v := (0, 0)) (w := (2, 0)) rfl cz (fun _ => Or.inl rfl) (st' := [(2, 0)]) rfl ?_
        obtain rfl := Option.some.inj hr
        exact r_ret dX2_readLine_137 rfl (Or.inr ⟨rfl, rfl⟩) (k0 _ hk) ⟨rfl, rfl⟩
      · have hr := ifn hr hc
        refine r_iconst dX2_readLine_132 (by decide) ?_
        refine r_goto dX2_readLine_133 (tgt := 137) (by decide) ?_
        refine r_scast 0 (v := (0, 1)) (w := (2, 1)) rfl cz (fun _ => Or.inr rfl) (st' := [(2, 1)]) rfl ?_
        obtain rfl := Option.some.inj hr
        exact r_ret dX2_readLine_137 rfl (Or.inr ⟨rfl, rfl⟩) (k0 _ hk) ⟨rfl, rfl⟩
  have hr := ifn hr hs4
  refine r_tableOut dX2_readLine_62 (by omega) (tgt := 138) (by decide) ?_
  refine r_iconst dX2_readLine_138 (by decide) ?_
  refine r_scast 0 (v := (0, 1)) (w := (2, 1)) rfl cz (fun _ => Or.inr rfl) (st' := [(2, 1)]) rfl ?_
  obtain rfl := Option.some.inj hr
  exact r_ret dX2_readLine_139 rfl (Or.inr ⟨rfl, rfl⟩) (k0 _ hk) ⟨rfl, rfl⟩
set_option maxRecDepth 100000 in
set_option maxHeartbeats 4000000 in
theorem oX2_readLine_b29 {a0 a1 l2 l3 s0 : Int} {K : Int × hH → Prop} (k0 : ∀ r, K (r) → x = (some (2, r.1), r.2)) {r : Int × hH} (hr : fX2_readLine_b29 h a0 a1 l2 l3 s0 = some r) (hk : K r) : Wq p l e R s m args below meth c D G A H0 true n0 M_X2_readLine x 0 0 29 [(0, (12, a0)), (1, (0, a1)), (2, (0, l2)), (3, (2, l3))] [(0, s0)] h := by
  unfold fX2_readLine_b29 at hr
  refine r_istore dX2_readLine_29 (Or.inl rfl) (by decide) (lv' := [(4, (0, s0)), (0, (12, a0)), (1, (0, a1)), (2, (0, l2)), (3, (2, l3))]) rfl ?_
  refine r_iload_n dX2_readLine_31 rfl 4 rfl (Or.inr rfl) ?_
  refine r_scast 0 (v := (2, l3)) (w := (0, l3)) rfl zc hTz (st' := [(0, l3)]) rfl ?_
  refine r_if_eq dX2_readLine_32 (tgt := 43) (by decide) (fun hc => ?_) (fun hc => ?_)
  · have hr := ifp hr hc
    refine r_sub [1, 2, 3, 0] (lv' := [(0, (12, a0)), (1, (0, a1)), (2, (0, l2)), (4, (0, s0))]) rfl ?_
    exact oX2_readLine_b43 (K := K) (fun r z => k0 r z) hr hk
  · have hr := ifn hr hc
    refine r_iload dX2_readLine_35 0 rfl (Or.inl rfl) ?_
    refine r_iconst dX2_readLine_37 (by decide) ?_
    refine r_icmp_ne dX2_readLine_38 (tgt := 43) (by decide) (fun hc => ?_) (fun hc => ?_)
    · have hr := ifn hr hc
      refine r_sub [1, 2, 3, 0] (lv' := [(0, (12, a0)), (1, (0, a1)), (2, (0, l2)), (4, (0, s0))]) rfl ?_
      exact oX2_readLine_b43 (K := K) (fun r z => k0 r z) hr hk
    · have hr := ifp hr hc
      refine r_iconst dX2_readLine_41 (by decide) ?_
      refine r_scast 0 (v := (0, 0)) (w := (2, 0)) rfl cz (fun _ => Or.inl rfl) (st' := [(2, 0)]) rfl ?_
      obtain rfl := Option.some.inj hr
      exact r_ret dX2_readLine_42 rfl (Or.inr ⟨rfl, rfl⟩) (k0 _ hk) ⟨rfl, rfl⟩
set_option maxRecDepth 100000 in
set_option maxHeartbeats 4000000 in
theorem oX2_readLine_b0 {a0 a1 : Int} {K : Int × hH → Prop} (k0 : ∀ r, K (r) → x = (some (2, r.1), r.2)) {r : Int × hH} (hr : fX2_readLine h a0 a1 = some r) (hk : K r) : Wq p l e R s m args below meth c D G A H0 true n0 M_X2_readLine x 0 0 0 [(0, (12, a0)), (1, (0, a1))] [] h := by
  unfold fX2_readLine at hr
  refine r_aload_n dX2_readLine_0 rfl 0 rfl (nl rfl) ?_
  refine r_get 2 2 (o := a0) (w := (0, h a0 2)) (T := TX2) (ref := "FollowingRefs$Lines") rfl (by decide) rfl (by decide) inlX2 (wsl_29 _ (List.mem_of_getElem? (i := 16) rfl)) rfl dX2_readLine_1 rfl ?_
  refine r_istore_n dX2_readLine_4 rfl (Or.inl rfl) (by decide) (lv' := [(2, (0, h a0 2)), (0, (12, a0)), (1, (0, a1))]) rfl ?_
  refine r_iload_n dX2_readLine_5 rfl 2 rfl (Or.inl rfl) ?_
  obtain ⟨r6, hg6, hr⟩ := bnd hr
  refine k_S (as := [(0, a1)]) (rest := []) (X := (some (2, r6), h)) (oX2_startsStatement hg6) gX2_startsStatement rfl (wsl_29 _ (List.mem_of_getElem? (i := 19) rfl)) rfl dX2_readLine_6 rfl ?_
  refine r_istore_n dX2_readLine_9 rfl (Or.inr rfl) (by decide) (lv' := [(3, (2, r6)), (2, (0, h a0 2)), (0, (12, a0)), (1, (0, a1))]) rfl ?_
  refine r_iload_n dX2_readLine_10 rfl 0 rfl (Or.inr rfl) ?_
  refine r_scast 0 (v := (2, r6)) (w := (0, r6)) rfl zc hTz (st' := [(0, r6)]) rfl ?_
  refine r_if_eq dX2_readLine_11 (tgt := 28) (by decide) (fun hc => ?_) (fun hc => ?_)
  · have hr := ifp hr hc
    refine r_iconst dX2_readLine_28 (by decide) ?_
    refine r_sub [2, 3, 1, 0] (lv' := [(0, (12, a0)), (1, (0, a1)), (2, (0, h a0 2)), (3, (2, r6))]) rfl ?_
    exact oX2_readLine_b29 (K := K) (fun r z => k0 r z) hr hk
  · have hr := ifn hr hc
    refine r_aload_n dX2_readLine_14 rfl 2 rfl (nl rfl) ?_
    refine r_get 2 0 (o := a0) (w := (19, h a0 0)) (T := TX2) (ref := "FollowingRefs$Lines") rfl (by decide) rfl (by decide) inlX2 (wsl_5 _ (List.mem_of_getElem? (i := 14) rfl)) rfl dX2_readLine_15 rfl ?_
    refine r_aload_n dX2_readLine_18 rfl 2 rfl (nl rfl) ?_
    refine r_get 2 1 (o := a0) (w := (14, h a0 1)) (T := TX2) (ref := "FollowingRefs$Lines") rfl (by decide) rfl (by decide) inlX2 (wsl_5 _ (List.mem_of_getElem? (i := 15) rfl)) rfl dX2_readLine_19 rfl ?_
    obtain ⟨q22, hg22, hr⟩ := bnd hr
    refine k_V (ci := 9) (o := h a0 0) (T := TX9) (as := [(14, h a0 1)]) (rest := []) (X := (some (0, q22.1), q22.2)) (oX9_takeTable hg22) gX9_takeTable rfl (by decide) rfl (wsl_30 _ (List.mem_of_getElem? (i := 4) rfl)) rfl dX2_readLine_22 rfl ?_
    refine r_goto dX2_readLine_25 (tgt := 29) (by decide) ?_
    refine r_sub [2, 3, 1, 0] (lv' := [(0, (12, a0)), (1, (0, a1)), (2, (0, h a0 2)), (3, (2, r6))]) rfl ?_
    exact oX2_readLine_b29 (K := K) (fun r z => k0 r z) hr hk
end M_X2_readLine
theorem oX2_readLine {l : Launch} {D : va_G} {G : gG} {h : hH} {a0 a1 : Int} {r : Int × hH} (hr : fX2_readLine h a0 a1 = some r) : Ctr l D G true yX2_readLine M_X2_readLine [(12, a0), (0, a1)] h (some (2, r.1), r.2) :=
  Ctr_of (by decide) rfl (fun z => by cases z) (nl rfl) (fun {p e R s m args below meth c A H0} => by
    exact oX2_readLine_b0 (K := fun z9 => z9 = r) (fun r9 z => by rw [z]) hr rfl)
/-! X2_readStatement -/
theorem dX2_readStatement_0 : decode cX2_readStatement 0 = .ok (.aload_n 0, 1) := by decide +kernel
theorem dX2_readStatement_1 : decode cX2_readStatement 1 = .ok (.iconst 0, 1) := by decide +kernel
theorem dX2_readStatement_2 : decode cX2_readStatement 2 = .ok (.putfield 39, 3) := by decide +kernel
theorem dX2_readStatement_5 : decode cX2_readStatement 5 = .ok (.aload_n 0, 1) := by decide +kernel
theorem dX2_readStatement_6 : decode cX2_readStatement 6 = .ok (.getfield 15, 3) := by decide +kernel
theorem dX2_readStatement_9 : decode cX2_readStatement 9 = .ok (.sipush 200, 3) := by decide +kernel
theorem dX2_readStatement_12 : decode cX2_readStatement 12 = .ok (.invokevirtual 43, 3) := by decide +kernel
theorem dX2_readStatement_15 : decode cX2_readStatement 15 = .ok (.aload_n 0, 1) := by decide +kernel
theorem dX2_readStatement_16 : decode cX2_readStatement 16 = .ok (.getfield 15, 3) := by decide +kernel
theorem dX2_readStatement_19 : decode cX2_readStatement 19 = .ok (.getfield 49, 3) := by decide +kernel
theorem dX2_readStatement_22 : decode cX2_readStatement 22 = .ok (.istore_n 1, 1) := by decide +kernel
theorem dX2_readStatement_23 : decode cX2_readStatement 23 = .ok (.iload_n 1, 1) := by decide +kernel
theorem dX2_readStatement_24 : decode cX2_readStatement 24 = .ok (.invokestatic 52, 3) := by decide +kernel
theorem dX2_readStatement_27 : decode cX2_readStatement 27 = .ok (.ifCond .ne 12, 3) := by decide +kernel
theorem dX2_readStatement_30 : decode cX2_readStatement 30 = .ok (.aload_n 0, 1) := by decide +kernel
theorem dX2_readStatement_31 : decode cX2_readStatement 31 = .ok (.getfield 15, 3) := by decide +kernel
theorem dX2_readStatement_34 : decode cX2_readStatement 34 = .ok (.iconst 1, 1) := by decide +kernel
theorem dX2_readStatement_35 : decode cX2_readStatement 35 = .ok (.invokevirtual 56, 3) := by decide +kernel
theorem dX2_readStatement_38 : decode cX2_readStatement 38 = .ok (.ireturn, 1) := by decide +kernel
theorem dX2_readStatement_39 : decode cX2_readStatement 39 = .ok (.aload_n 0, 1) := by decide +kernel
theorem dX2_readStatement_40 : decode cX2_readStatement 40 = .ok (.getfield 15, 3) := by decide +kernel
theorem dX2_readStatement_43 : decode cX2_readStatement 43 = .ok (.invokevirtual 59, 3) := by decide +kernel
theorem dX2_readStatement_46 : decode cX2_readStatement 46 = .ok (.aload_n 0, 1) := by decide +kernel
theorem dX2_readStatement_47 : decode cX2_readStatement 47 = .ok (.iload_n 1, 1) := by decide +kernel
theorem dX2_readStatement_48 : decode cX2_readStatement 48 = .ok (.invokevirtual 62, 3) := by decide +kernel
theorem dX2_readStatement_51 : decode cX2_readStatement 51 = .ok (.ifCond .eq 28, 3) := by decide +kernel
theorem dX2_readStatement_54 : decode cX2_readStatement 54 = .ok (.aload_n 0, 1) := by decide +kernel
theorem dX2_readStatement_55 : decode cX2_readStatement 55 = .ok (.getfield 15, 3) := by decide +kernel
theorem dX2_readStatement_58 : decode cX2_readStatement 58 = .ok (.getfield 49, 3) := by decide +kernel
theorem dX2_readStatement_61 : decode cX2_readStatement 61 = .ok (.ifCond .eq 14, 3) := by decide +kernel
theorem dX2_readStatement_64 : decode cX2_readStatement 64 = .ok (.aload_n 0, 1) := by decide +kernel
theorem dX2_readStatement_65 : decode cX2_readStatement 65 = .ok (.getfield 15, 3) := by decide +kernel
theorem dX2_readStatement_68 : decode cX2_readStatement 68 = .ok (.iconst 1, 1) := by decide +kernel
theorem dX2_readStatement_69 : decode cX2_readStatement 69 = .ok (.invokevirtual 56, 3) := by decide +kernel
theorem dX2_readStatement_72 : decode cX2_readStatement 72 = .ok (.ifCond .eq 7, 3) := by decide +kernel
theorem dX2_readStatement_75 : decode cX2_readStatement 75 = .ok (.iconst 1, 1) := by decide +kernel
theorem dX2_readStatement_76 : decode cX2_readStatement 76 = .ok (.goto 4, 3) := by decide +kernel
theorem dX2_readStatement_79 : decode cX2_readStatement 79 = .ok (.iconst 0, 1) := by decide +kernel
theorem dX2_readStatement_80 : decode cX2_readStatement 80 = .ok (.ireturn, 1) := by decide +kernel
abbrev M_X2_readStatement : mM := (cX2_readStatement, 2, RX2, some .boolean, false, 7, 164, 0, 0)
theorem gX2_readStatement : cI yX2_readStatement M_X2_readStatement 0 := ⟨(wsl_29 _ (List.mem_of_getElem? (i := 13) rfl)), (wsl_29 _ (List.mem_of_getElem? (i := 14) rfl)), (wsl_2 _ (List.mem_of_getElem? (i := 15) rfl)), (wsl_29 _ (List.mem_of_getElem? (i := 15) rfl)), by decide +kernel⟩
noncomputable def fX2_readStatement_b75 (h : hH) : Option (Int × hH) :=
  some (1, h)
noncomputable def fX2_readStatement (h : hH) (a0 : Int) : Option (Int × hH) :=
  (pput h a0 2 0).bind fun h2 =>
  (fX9_start h2 (h2 a0 0) 200).bind fun h12 =>
  (fX2_startsStatement h12 (h12 (h12 a0 0) 5)).bind fun r24 =>
  if r24 = 0 then
    (fX9_fail h12 (h12 a0 0) 1).bind fun q35 =>
    some (q35.1, q35.2)
  else
    (fX9_step h12 (h12 a0 0)).bind fun h43 =>
    (fX2_readLine h43 a0 (h12 (h12 a0 0) 5)).bind fun q48 =>
    if q48.1 = 0 then
      some (0, q48.2)
    else
      if q48.2 (q48.2 a0 0) 5 = 0 then
        fX2_readStatement_b75 q48.2
      else
        (fX9_fail q48.2 (q48.2 a0 0) 1).bind fun q69 =>
        if q69.1 = 0 then
          some (0, q69.2)
        else
          fX2_readStatement_b75 q69.2
section M_X2_readStatement
variable {p : Program} {l : Launch} {e : Env} {R : Room} {s : State} {m : MethodId} {args : Array Value} {below : List Frame} {meth : Method} {c : Code} {D : va_G} {G : gG} {A : Nat → Prop} {H0 : Heap} {n0 : Int} {x : Option vV × hH} {h : hH}
set_option maxRecDepth 100000 in
set_option maxHeartbeats 4000000 in
theorem oX2_readStatement_b75 {K : Int × hH → Prop} (k0 : ∀ r, K (r) → x = (some (2, r.1), r.2)) {r : Int × hH} (hr : fX2_readStatement_b75 h  = some r) (hk : K r) : Wq p l e R s m args below meth c D G A H0 true n0 M_X2_readStatement x 0 0 75 [] [] h := by
  unfold fX2_readStatement_b75 at hr
  refine r_iconst dX2_readStatement_75 (by decide) ?_
  refine r_goto dX2_readStatement_76 (tgt := 80) (by decide) ?_
  refine r_scast 0 (v := (0, 1)) (w := (2, 1)) rfl cz (fun _ => Or.inr rfl) (st' := [(2, 1)]) rfl ?_
  obtain rfl := Option.some.inj hr
  exact r_ret dX2_readStatement_80 rfl (Or.inr ⟨rfl, rfl⟩) (k0 _ hk) ⟨rfl, rfl⟩
set_option maxRecDepth 100000 in
set_option maxHeartbeats 4000000 in
theorem oX2_readStatement_b0 {a0 : Int} {K : Int × hH → Prop} (k0 : ∀ r, K (r) → x = (some (2, r.1), r.2)) {r : Int × hH} (hr : fX2_readStatement h a0 = some r) (hk : K r) : Wq p l e R s m args below meth c D G A H0 true n0 M_X2_readStatement x 0 0 0 [(0, (12, a0))] [] h := by
  unfold fX2_readStatement at hr
  refine r_aload_n dX2_readStatement_0 rfl 0 rfl (nl rfl) ?_
  refine r_iconst dX2_readStatement_1 (by decide) ?_
  obtain ⟨h2, hg2, hr⟩ := bnd hr
  refine r_put' 2 2 (t := 0) (ref := "FollowingRefs$Lines") hg2 rfl tyX2 tyX2_ok nmX2 rfl (by decide) rfl (by decide) inlX2 (wsl_29 _ (List.mem_of_getElem? (i := 16) rfl)) rfl rfl (by decide +kernel) (by decide) rfl (Or.inl ⟨rfl, rfl⟩) dX2_readStatement_2 ?_
  refine r_aload_n dX2_readStatement_5 rfl 0 rfl (nl rfl) ?_
  refine r_get 2 0 (o := a0) (w := (19, h2 a0 0)) (T := TX2) (ref := "FollowingRefs$Lines") rfl (by decide) rfl (by decide) inlX2 (wsl_5 _ (List.mem_of_getElem? (i := 14) rfl)) rfl dX2_readStatement_6 rfl ?_
  refine r_sipush dX2_readStatement_9 (by decide) (by decide) ?_
  obtain ⟨h12, hg12, hr⟩ := bnd hr
  refine k_V (ci := 9) (o := h2 a0 0) (T := TX9) (as := [(0, 200)]) (rest := []) (X := (none, h12)) (oX9_start hg12) gX9_start rfl (by decide) rfl (wsl_29 _ (List.mem_of_getElem? (i := 18) rfl)) rfl dX2_readStatement_12 rfl ?_
  refine r_aload_n dX2_readStatement_15 rfl 0 rfl (nl rfl) ?_
  refine r_get 2 0 (o := a0) (w := (19, h12 a0 0)) (T := TX2) (ref := "FollowingRefs$Lines") rfl (by decide) rfl (by decide) inlX2 (wsl_5 _ (List.mem_of_getElem? (i := 14) rfl)) rfl dX2_readStatement_16 rfl ?_
  refine r_get 9 5 (o := h12 a0 0) (w := (0, h12 (h12 a0 0) 5)) (T := TX9) (ref := "FollowingRefs$Text") rfl (by decide) rfl (by decide) inlX9 (wsl_29 _ (List.mem_of_getElem? (i := 17) rfl)) rfl dX2_readStatement_19 rfl ?_
  refine r_istore_n dX2_readStatement_22 rfl (Or.inl rfl) (by decide) (lv' := [(1, (0, h12 (h12 a0 0) 5)), (0, (12, a0))]) rfl ?_
  refine r_iload_n dX2_readStatement_23 rfl 0 rfl (Or.inl rfl) ?_
  obtain ⟨r24, hg24, hr⟩ := bnd hr
  refine k_S (as := [(0, h12 (h12 a0 0) 5)]) (rest := []) (X := (some (2, r24), h12)) (oX2_startsStatement hg24) gX2_startsStatement rfl (wsl_29 _ (List.mem_of_getElem? (i := 19) rfl)) rfl dX2_readStatement_24 rfl ?_
  refine r_scast 0 (v := (2, r24)) (w := (0, r24)) rfl zc hTz (st' := [(0, r24)]) rfl ?_
  refine r_if_ne dX2_readStatement_27 (tgt := 39) (by decide) (fun hc => ?_) (fun hc => ?_)
  · have hr := ifn hr hc
    refine r_aload_n dX2_readStatement_39 rfl 1 rfl (nl rfl) ?_
    refine r_get 2 0 (o := a0) (w := (19, h12 a0 0)) (T := TX2) (ref := "FollowingRefs$Lines") rfl (by decide) rfl (by decide) inlX2 (wsl_5 _ (List.mem_of_getElem? (i := 14) rfl)) rfl dX2_readStatement_40 rfl ?_
    obtain ⟨h43, hg43, hr⟩ := bnd hr
    refine k_V (ci := 9) (o := h12 a0 0) (T := TX9) (as := []) (rest := []) (X := (none, h43)) (oX9_step hg43) gX9_step rfl (by decide) rfl (wsl_29 _ (List.mem_of_getElem? (i := 23) rfl)) rfl dX2_readStatement_43 rfl ?_
    refine r_aload_n dX2_readStatement_46 rfl 1 rfl (nl rfl) ?_
    refine r_iload_n dX2_readStatement_47 rfl 0 rfl (Or.inl rfl) ?_
    obtain ⟨q48, hg48, hr⟩ := bnd hr
    refine k_V (ci := 2) (o := a0) (T := TX2) (as := [(0, h12 (h12 a0 0) 5)]) (rest := []) (X := (some (2, q48.1), q48.2)) (oX2_readLine hg48) gX2_readLine rfl (by decide) rfl (wsl_30 _ (List.mem_of_getElem? (i := 0) rfl)) rfl dX2_readStatement_48 rfl ?_
    refine r_scast 0 (v := (2, q48.1)) (w := (0, q48.1)) rfl zc hTz (st' := [(0, q48.1)]) rfl ?_
    refine r_if_eq dX2_readStatement_51 (tgt := 79) (by decide) (fun hc => ?_) (fun hc => ?_)
    · have hr := ifp hr hc
      refine r_iconst dX2_readStatement_79 (by decide) ?_
      refine r_scast 0 (v := (0, 0)) (w := (2, 0)) rfl cz (fun _ => Or.inl rfl) (st' := [(2, 0)]) rfl ?_
      obtain rfl := Option.some.inj hr
      exact r_ret dX2_readStatement_80 rfl (Or.inr ⟨rfl, rfl⟩) (k0 _ hk) ⟨rfl, rfl⟩
    · have hr := ifn hr hc
      refine r_aload_n dX2_readStatement_54 rfl 1 rfl (nl rfl) ?_
      refine r_get 2 0 (o := a0) (w := (19, q48.2 a0 0)) (T := TX2) (ref := "FollowingRefs$Lines") rfl (by decide) rfl (by decide) inlX2 (wsl_5 _ (List.mem_of_getElem? (i := 14) rfl)) rfl dX2_readStatement_55 rfl ?_
      refine r_get 9 5 (o := q48.2 a0 0) (w := (0, q48.2 (q48.2 a0 0) 5)) (T := TX9) (ref := "FollowingRefs$Text") rfl (by decide) rfl (by decide) inlX9 (wsl_29 _ (List.mem_of_getElem? (i := 17) rfl)) rfl dX2_readStatement_58 rfl ?_
      refine r_if_eq dX2_readStatement_61 (tgt := 75) (by decide) (fun hc => ?_) (fun hc => ?_)
      · have hr := ifp hr hc
        refine r_sub [] (lv' := []) rfl ?_
        exact oX2_readStatement_b75 (K := K) (fun r z => k0 r z) hr hk
      · have hr := ifn hr hc
        refine r_aload_n dX2_readStatement_64 rfl 1 rfl (nl rfl) ?_
        refine r_get 2 0 (o := a0) (w := (19, q48.2 a0 0)) (T := TX2) (ref := "FollowingRefs$Lines") rfl (by decide) rfl (by decide) inlX2 (wsl_5 _ (List.mem_of_getElem? (i := 14) rfl)) rfl dX2_readStatement_65 rfl ?_
        refine r_iconst dX2_readStatement_68 (by decide) ?_
        obtain ⟨q69, hg69, hr⟩ := bnd hr
        refine k_V (ci := 9) (o := q48.2 a0 0) (T := TX9) (as := [(0, 1)]) (rest := []) (X := (some (2, q69.1), q69.2)) (oX9_fail hg69) gX9_fail rfl (by decide) rfl (wsl_29 _ (List.mem_of_getElem? (i := 22) rfl)) rfl dX2_readStatement_69 rfl ?_
        refine r_scast 0 (v := (2, q69.1)) (w := (0, q69.1)) rfl zc hTz (st' := [(0, q69.1)]) rfl ?_
        refine r_if_eq dX2_readStatement_72 (tgt := 79) (by decide) (fun hc => ?_) (fun hc => ?_)
        · have hr := ifp hr hc
          refine r_iconst dX2_readStatement_79 (by decide) ?_
          refine r_scast 0 (v := (0, 0)) (w := (2, 0)) rfl cz (fun _ => Or.inl rfl) (st' := [(2, 0)]) rfl ?_
          obtain rfl := Option.some.inj hr
          exact r_ret dX2_readStatement_80 rfl (Or.inr ⟨rfl, rfl⟩) (k0 _ hk) ⟨rfl, rfl⟩
        · have hr := ifn hr hc
          refine r_sub [] (lv' := []) rfl ?_
          exact oX2_readStatement_b75 (K := K) (fun r z => k0 r z) hr hk
  · have hr := ifp hr hc
    refine r_aload_n dX2_readStatement_30 rfl 1 rfl (nl rfl) ?_
    refine r_get 2 0 (o := a0) (w := (19, h12 a0 0)) (T := TX2) (ref := "FollowingRefs$Lines") rfl (by decide) rfl (by decide) inlX2 (wsl_5 _ (List.mem_of_getElem? (i := 14) rfl)) rfl dX2_readStatement_31 rfl ?_
    refine r_iconst dX2_readStatement_34 (by decide) ?_
    obtain ⟨q35, hg35, hr⟩ := bnd hr
    refine k_V (ci := 9) (o := h12 a0 0) (T := TX9) (as := [(0, 1)]) (rest := []) (X := (some (2, q35.1), q35.2)) (oX9_fail hg35) gX9_fail rfl (by decide) rfl (wsl_29 _ (List.mem_of_getElem? (i := 22) rfl)) rfl dX2_readStatement_35 rfl ?_
    obtain rfl := Option.some.inj hr
    exact r_ret dX2_readStatement_38 rfl (Or.inr ⟨rfl, rfl⟩) (k0 _ hk) ⟨rfl, rfl⟩
end M_X2_readStatement
theorem oX2_readStatement {l : Launch} {D : va_G} {G : gG} {h : hH} {a0 : Int} {r : Int × hH} (hr : fX2_readStatement h a0 = some r) : Ctr l D G true yX2_readStatement M_X2_readStatement [(12, a0)] h (some (2, r.1), r.2) :=
  Ctr_of (by decide) rfl (fun z => by cases z) (nl rfl) (fun {p e R s m args below meth c A H0} => by
    exact oX2_readStatement_b0 (K := fun z9 => z9 = r) (fun r9 z => by rw [z]) hr rfl)
/-! X9_take -/
theorem dX9_take_0 : decode cX9_take 0 = .ok (.aload_n 0, 1) := by decide +kernel
theorem dX9_take_1 : decode cX9_take 1 = .ok (.getfield 76, 3) := by decide +kernel
theorem dX9_take_4 : decode cX9_take 4 = .ok (.iload_n 1, 1) := by decide +kernel
theorem dX9_take_5 : decode cX9_take 5 = .ok (.if_icmp .eq 9, 3) := by decide +kernel
theorem dX9_take_8 : decode cX9_take 8 = .ok (.aload_n 0, 1) := by decide +kernel
theorem dX9_take_9 : decode cX9_take 9 = .ok (.iconst 1, 1) := by decide +kernel
theorem dX9_take_10 : decode cX9_take 10 = .ok (.invokevirtual 99, 3) := by decide +kernel
theorem dX9_take_13 : decode cX9_take 13 = .ok (.ireturn, 1) := by decide +kernel
theorem dX9_take_14 : decode cX9_take 14 = .ok (.aload_n 0, 1) := by decide +kernel
theorem dX9_take_15 : decode cX9_take 15 = .ok (.invokevirtual 65, 3) := by decide +kernel
theorem dX9_take_18 : decode cX9_take 18 = .ok (.iconst 1, 1) := by decide +kernel
theorem dX9_take_19 : decode cX9_take 19 = .ok (.ireturn, 1) := by decide +kernel
abbrev M_X9_take : mM := (cX9_take, 2, RX9, some .boolean, false, 1, 22, 0, 0)
theorem gX9_take : cI yX9_take M_X9_take 1 := ⟨(wsl_19 _ (List.mem_of_getElem? (i := 11) rfl)), (wsl_19 _ (List.mem_of_getElem? (i := 12) rfl)), (wsl_1 _ (List.mem_of_getElem? (i := 15) rfl)), (wsl_19 _ (List.mem_of_getElem? (i := 13) rfl)), by decide +kernel⟩
noncomputable def fX9_take (h : hH) (a0 a1 : Int) : Option (Int × hH) :=
  if h a0 5 = a1 then
    (fX9_step h a0).bind fun h15 =>
    some (1, h15)
  else
    (fX9_fail h a0 1).bind fun q10 =>
    some (q10.1, q10.2)
section M_X9_take
variable {p : Program} {l : Launch} {e : Env} {R : Room} {s : State} {m : MethodId} {args : Array Value} {below : List Frame} {meth : Method} {c : Code} {D : va_G} {G : gG} {A : Nat → Prop} {H0 : Heap} {n0 : Int} {x : Option vV × hH} {h : hH}
set_option maxRecDepth 100000 in
set_option maxHeartbeats 4000000 in
theorem oX9_take_b0 {a0 a1 : Int} {K : Int × hH → Prop} (k0 : ∀ r, K (r) → x = (some (2, r.1), r.2)) {r : Int × hH} (hr : fX9_take h a0 a1 = some r) (hk : K r) : Wq p l e R s m args below meth c D G A H0 true n0 M_X9_take x 0 0 0 [(0, (19, a0)), (1, (0, a1))] [] h := by
  unfold fX9_take at hr
  refine r_aload_n dX9_take_0 rfl 0 rfl (nl rfl) ?_
  refine r_get 9 5 (o := a0) (w := (0, h a0 5)) (T := TX9) (ref := "FollowingRefs$Text") rfl (by decide) rfl (by decide) inlX9 (wsl_15 _ (List.mem_of_getElem? (i := 22) rfl)) rfl dX9_take_1 rfl ?_
  refine r_iload_n dX9_take_4 rfl 1 rfl (Or.inl rfl) ?_
  refine r_icmp_eq dX9_take_5 (tgt := 14) (by decide) (fun hc => ?_) (fun hc => ?_)
  · have hr := ifp hr hc
    refine r_aload_n dX9_take_14 rfl 0 rfl (nl rfl) ?_
    obtain ⟨h15, hg15, hr⟩ := bnd hr
    refine k_V (ci := 9) (o := a0) (T := TX9) (as := []) (rest := []) (X := (none, h15)) (oX9_step hg15) gX9_step rfl (by decide) rfl (wsl_15 _ (List.mem_of_getElem? (i := 17) rfl)) rfl dX9_take_15 rfl ?_
    refine r_iconst dX9_take_18 (by decide) ?_
    refine r_scast 0 (v := (0, 1)) (w := (2, 1)) rfl cz (fun _ => Or.inr rfl) (st' := [(2, 1)]) rfl ?_
    obtain rfl := Option.some.inj hr
    exact r_ret dX9_take_19 rfl (Or.inr ⟨rfl, rfl⟩) (k0 _ hk) ⟨rfl, rfl⟩
  · have hr := ifn hr hc
    refine r_aload_n dX9_take_8 rfl 0 rfl (nl rfl) ?_
    refine r_iconst dX9_take_9 (by decide) ?_
    obtain ⟨q10, hg10, hr⟩ := bnd hr
    refine k_V (ci := 9) (o := a0) (T := TX9) (as := [(0, 1)]) (rest := []) (X := (some (2, q10.1), q10.2)) (oX9_fail hg10) gX9_fail rfl (by decide) rfl (wsl_18 _ (List.mem_of_getElem? (i := 14) rfl)) rfl dX9_take_10 rfl ?_
    obtain rfl := Option.some.inj hr
    exact r_ret dX9_take_13 rfl (Or.inr ⟨rfl, rfl⟩) (k0 _ hk) ⟨rfl, rfl⟩
end M_X9_take
theorem oX9_take {l : Launch} {D : va_G} {G : gG} {h : hH} {a0 a1 : Int} {r : Int × hH} (hr : fX9_take h a0 a1 = some r) : Ctr l D G true yX9_take M_X9_take [(19, a0), (0, a1)] h (some (2, r.1), r.2) :=
  Ctr_of (by decide) rfl (fun z => by cases z) (nl rfl) (fun {p e R s m args below meth c A H0} => by
    exact oX9_take_b0 (K := fun z9 => z9 = r) (fun r9 z => by rw [z]) hr rfl)
/-! X2_readBook -/
theorem dX2_readBook_0 : decode cX2_readBook 0 = .ok (.aload_n 0, 1) := by decide +kernel
theorem dX2_readBook_1 : decode cX2_readBook 1 = .ok (.iconst 0, 1) := by decide +kernel
theorem dX2_readBook_2 : decode cX2_readBook 2 = .ok (.putfield 39, 3) := by decide +kernel
theorem dX2_readBook_5 : decode cX2_readBook 5 = .ok (.aload_n 0, 1) := by decide +kernel
theorem dX2_readBook_6 : decode cX2_readBook 6 = .ok (.getfield 15, 3) := by decide +kernel
theorem dX2_readBook_9 : decode cX2_readBook 9 = .ok (.sipush 400, 3) := by decide +kernel
theorem dX2_readBook_12 : decode cX2_readBook 12 = .ok (.invokevirtual 43, 3) := by decide +kernel
theorem dX2_readBook_15 : decode cX2_readBook 15 = .ok (.iconst 0, 1) := by decide +kernel
theorem dX2_readBook_16 : decode cX2_readBook 16 = .ok (.istore_n 1, 1) := by decide +kernel
theorem dX2_readBook_17 : decode cX2_readBook 17 = .ok (.iload_n 1, 1) := by decide +kernel
theorem dX2_readBook_18 : decode cX2_readBook 18 = .ok (.sipush 400, 3) := by decide +kernel
theorem dX2_readBook_21 : decode cX2_readBook 21 = .ok (.if_icmp .ge 111, 3) := by decide +kernel
theorem dX2_readBook_24 : decode cX2_readBook 24 = .ok (.aload_n 0, 1) := by decide +kernel
theorem dX2_readBook_25 : decode cX2_readBook 25 = .ok (.getfield 15, 3) := by decide +kernel
theorem dX2_readBook_28 : decode cX2_readBook 28 = .ok (.getfield 49, 3) := by decide +kernel
theorem dX2_readBook_31 : decode cX2_readBook 31 = .ok (.ifCond .eq 101, 3) := by decide +kernel
theorem dX2_readBook_34 : decode cX2_readBook 34 = .ok (.aload_n 0, 1) := by decide +kernel
theorem dX2_readBook_35 : decode cX2_readBook 35 = .ok (.getfield 15, 3) := by decide +kernel
theorem dX2_readBook_38 : decode cX2_readBook 38 = .ok (.getfield 49, 3) := by decide +kernel
theorem dX2_readBook_41 : decode cX2_readBook 41 = .ok (.istore_n 2, 1) := by decide +kernel
theorem dX2_readBook_42 : decode cX2_readBook 42 = .ok (.iload_n 2, 1) := by decide +kernel
theorem dX2_readBook_43 : decode cX2_readBook 43 = .ok (.invokestatic 52, 3) := by decide +kernel
theorem dX2_readBook_46 : decode cX2_readBook 46 = .ok (.ifCond .ne 33, 3) := by decide +kernel
theorem dX2_readBook_49 : decode cX2_readBook 49 = .ok (.iload_n 2, 1) := by decide +kernel
theorem dX2_readBook_50 : decode cX2_readBook 50 = .ok (.sipush 146, 3) := by decide +kernel
theorem dX2_readBook_53 : decode cX2_readBook 53 = .ok (.if_icmp .eq 26, 3) := by decide +kernel
theorem dX2_readBook_56 : decode cX2_readBook 56 = .ok (.iload_n 2, 1) := by decide +kernel
theorem dX2_readBook_57 : decode cX2_readBook 57 = .ok (.sipush 147, 3) := by decide +kernel
theorem dX2_readBook_60 : decode cX2_readBook 60 = .ok (.if_icmp .eq 19, 3) := by decide +kernel
theorem dX2_readBook_63 : decode cX2_readBook 63 = .ok (.iload_n 2, 1) := by decide +kernel
theorem dX2_readBook_64 : decode cX2_readBook 64 = .ok (.sipush 148, 3) := by decide +kernel
theorem dX2_readBook_67 : decode cX2_readBook 67 = .ok (.if_icmp .eq 12, 3) := by decide +kernel
theorem dX2_readBook_70 : decode cX2_readBook 70 = .ok (.aload_n 0, 1) := by decide +kernel
theorem dX2_readBook_71 : decode cX2_readBook 71 = .ok (.getfield 15, 3) := by decide +kernel
theorem dX2_readBook_74 : decode cX2_readBook 74 = .ok (.iconst 1, 1) := by decide +kernel
theorem dX2_readBook_75 : decode cX2_readBook 75 = .ok (.invokevirtual 56, 3) := by decide +kernel
theorem dX2_readBook_78 : decode cX2_readBook 78 = .ok (.ireturn, 1) := by decide +kernel
theorem dX2_readBook_79 : decode cX2_readBook 79 = .ok (.aload_n 0, 1) := by decide +kernel
theorem dX2_readBook_80 : decode cX2_readBook 80 = .ok (.getfield 39, 3) := by decide +kernel
theorem dX2_readBook_83 : decode cX2_readBook 83 = .ok (.bipush 40, 2) := by decide +kernel
theorem dX2_readBook_85 : decode cX2_readBook 85 = .ok (.if_icmp .lt 12, 3) := by decide +kernel
theorem dX2_readBook_88 : decode cX2_readBook 88 = .ok (.aload_n 0, 1) := by decide +kernel
theorem dX2_readBook_89 : decode cX2_readBook 89 = .ok (.getfield 15, 3) := by decide +kernel
theorem dX2_readBook_92 : decode cX2_readBook 92 = .ok (.iconst 4, 1) := by decide +kernel
theorem dX2_readBook_93 : decode cX2_readBook 93 = .ok (.invokevirtual 56, 3) := by decide +kernel
theorem dX2_readBook_96 : decode cX2_readBook 96 = .ok (.ireturn, 1) := by decide +kernel
theorem dX2_readBook_97 : decode cX2_readBook 97 = .ok (.aload_n 0, 1) := by decide +kernel
theorem dX2_readBook_98 : decode cX2_readBook 98 = .ok (.getfield 15, 3) := by decide +kernel
theorem dX2_readBook_101 : decode cX2_readBook 101 = .ok (.invokevirtual 59, 3) := by decide +kernel
theorem dX2_readBook_104 : decode cX2_readBook 104 = .ok (.aload_n 0, 1) := by decide +kernel
theorem dX2_readBook_105 : decode cX2_readBook 105 = .ok (.iload_n 2, 1) := by decide +kernel
theorem dX2_readBook_106 : decode cX2_readBook 106 = .ok (.invokevirtual 62, 3) := by decide +kernel
theorem dX2_readBook_109 : decode cX2_readBook 109 = .ok (.ifCond .eq 15, 3) := by decide +kernel
theorem dX2_readBook_112 : decode cX2_readBook 112 = .ok (.aload_n 0, 1) := by decide +kernel
theorem dX2_readBook_113 : decode cX2_readBook 113 = .ok (.getfield 15, 3) := by decide +kernel
theorem dX2_readBook_116 : decode cX2_readBook 116 = .ok (.bipush 59, 2) := by decide +kernel
theorem dX2_readBook_118 : decode cX2_readBook 118 = .ok (.invokevirtual 65, 3) := by decide +kernel
theorem dX2_readBook_121 : decode cX2_readBook 121 = .ok (.ifCond .ne 5, 3) := by decide +kernel
theorem dX2_readBook_124 : decode cX2_readBook 124 = .ok (.iconst 0, 1) := by decide +kernel
theorem dX2_readBook_125 : decode cX2_readBook 125 = .ok (.ireturn, 1) := by decide +kernel
theorem dX2_readBook_126 : decode cX2_readBook 126 = .ok (.iinc 1 1, 3) := by decide +kernel
theorem dX2_readBook_129 : decode cX2_readBook 129 = .ok (.goto (-112), 3) := by decide +kernel
theorem dX2_readBook_132 : decode cX2_readBook 132 = .ok (.iconst 1, 1) := by decide +kernel
theorem dX2_readBook_133 : decode cX2_readBook 133 = .ok (.ireturn, 1) := by decide +kernel
abbrev M_X2_readBook : mM := (cX2_readBook, 3, RX2, some .boolean, false, 7, 164, 0, 0)
theorem gX2_readBook : cI yX2_readBook M_X2_readBook 0 := ⟨(wsl_65 _ (List.mem_of_getElem? (i := 8) rfl)), (wsl_65 _ (List.mem_of_getElem? (i := 9) rfl)), (wsl_2 _ (List.mem_of_getElem? (i := 15) rfl)), (wsl_65 _ (List.mem_of_getElem? (i := 10) rfl)), by decide +kernel⟩
noncomputable def fX2_readBook_b79 (h : hH) (a0 l1 l2 : Int) : Option ((hH × Int) ⊕ (Int × hH)) :=
  if h a0 2 < 40 then
    (fX9_step h (h a0 0)).bind fun h101 =>
    (fX2_readLine h101 a0 l2).bind fun q106 =>
    if q106.1 = 0 then
      some (.inr ((0, q106.2)))
    else
      (fX9_take q106.2 (q106.2 a0 0) 59).bind fun q118 =>
      if q118.1 = 0 then
        some (.inr ((0, q118.2)))
      else
        some (.inl (q118.2, w32 (l1 + 1)))
  else
    (fX9_fail h (h a0 0) 4).bind fun q93 =>
    some (.inr ((q93.1, q93.2)))
noncomputable def fX2_readBook_s17 (h0 : hH) (a0 : Int) : hH × Int → Option ((hH × Int) ⊕ (Int × hH)) := fun (h, l1) =>
  if l1 < 400 then
    if h (h a0 0) 5 = 0 then
      some (.inr ((1, h)))
    else
      (fX2_startsStatement h (h (h a0 0) 5)).bind fun r43 =>
      if r43 = 0 then
        if h (h a0 0) 5 = 146 then
          fX2_readBook_b79 h a0 l1 (h (h a0 0) 5)
        else
          if h (h a0 0) 5 = 147 then
            fX2_readBook_b79 h a0 l1 (h (h a0 0) 5)
          else
            if h (h a0 0) 5 = 148 then
              fX2_readBook_b79 h a0 l1 (h (h a0 0) 5)
            else
              (fX9_fail h (h a0 0) 1).bind fun q75 =>
              some (.inr ((q75.1, q75.2)))
      else
        fX2_readBook_b79 h a0 l1 (h (h a0 0) 5)
  else
    some (.inr ((1, h)))
noncomputable def fX2_readBook (h : hH) (a0 : Int) : Option (Int × hH) :=
  (pput h a0 2 0).bind fun h2 =>
  (fX9_start h2 (h2 a0 0) 400).bind fun h12 =>
  lpO (fX2_readBook_s17 h12 a0) (h12, 0)
section M_X2_readBook
variable {p : Program} {l : Launch} {e : Env} {R : Room} {s : State} {m : MethodId} {args : Array Value} {below : List Frame} {meth : Method} {c : Code} {D : va_G} {G : gG} {A : Nat → Prop} {H0 : Heap} {n0 : Int} {x : Option vV × hH} {h : hH}
set_option maxRecDepth 100000 in
set_option maxHeartbeats 4000000 in
theorem oX2_readBook_b79 {a0 l1 l2 : Int} {K : (hH × Int) ⊕ (Int × hH) → Prop} (k0 : ∀ r, K (.inr (r)) → x = (some (2, r.1), r.2)) (k1 : ∀ (h : hH) (l1 : Int), K (.inl (h, l1)) → Wq p l e R s m args below meth c D G A H0 true n0 M_X2_readBook x 0 0 17 [(0, (12, a0)), (1, (0, l1))] [] h) {r : (hH × Int) ⊕ (Int × hH)} (hr : fX2_readBook_b79 h a0 l1 l2 = some r) (hk : K r) : Wq p l e R s m args below meth c D G A H0 true n0 M_X2_readBook x 0 0 79 [(0, (12, a0)), (1, (0, l1)), (2, (0, l2))] [] h := by
  unfold fX2_readBook_b79 at hr
  refine r_aload_n dX2_readBook_79 rfl 0 rfl (nl rfl) ?_
  refine r_get 2 2 (o := a0) (w := (0, h a0 2)) (T := TX2) (ref := "FollowingRefs$Lines") rfl (by decide) rfl (by decide) inlX2 (wsl_29 _ (List.mem_of_getElem? (i := 16) rfl)) rfl dX2_readBook_80 rfl ?_
  refine r_bipush dX2_readBook_83 (by decide) (by decide) ?_
  refine r_icmp_lt dX2_readBook_85 (tgt := 97) (by decide) (fun hc => ?_) (fun hc => ?_)
  · have hr := ifp hr hc
    refine r_aload_n dX2_readBook_97 rfl 0 rfl (nl rfl) ?_
    refine r_get 2 0 (o := a0) (w := (19, h a0 0)) (T := TX2) (ref := "FollowingRefs$Lines") rfl (by decide) rfl (by decide) inlX2 (wsl_5 _ (List.mem_of_getElem? (i := 14) rfl)) rfl dX2_readBook_98 rfl ?_
    obtain ⟨h101, hg101, hr⟩ := bnd hr
    refine k_V (ci := 9) (o := h a0 0) (T := TX9) (as := []) (rest := []) (X := (none, h101)) (oX9_step hg101) gX9_step rfl (by decide) rfl (wsl_29 _ (List.mem_of_getElem? (i := 23) rfl)) rfl dX2_readBook_101 rfl ?_
    refine r_aload_n dX2_readBook_104 rfl 0 rfl (nl rfl) ?_
    refine r_iload_n dX2_readBook_105 rfl 2 rfl (Or.inl rfl) ?_
    obtain ⟨q106, hg106, hr⟩ := bnd hr
    refine k_V (ci := 2) (o := a0) (T := TX2) (as := [(0, l2)]) (rest := []) (X := (some (2, q106.1), q106.2)) (oX2_readLine hg106) gX2_readLine rfl (by decide) rfl (wsl_30 _ (List.mem_of_getElem? (i := 0) rfl)) rfl dX2_readBook_106 rfl ?_
    refine r_scast 0 (v := (2, q106.1)) (w := (0, q106.1)) rfl zc hTz (st' := [(0, q106.1)]) rfl ?_
    refine r_if_eq dX2_readBook_109 (tgt := 124) (by decide) (fun hc => ?_) (fun hc => ?_)
    · have hr := ifp hr hc
      refine r_iconst dX2_readBook_124 (by decide) ?_
      refine r_scast 0 (v := (0, 0)) (w := (2, 0)) rfl cz (fun _ => Or.inl rfl) (st' := [(2, 0)]) rfl ?_
      obtain rfl := Option.some.inj hr
      exact r_ret dX2_readBook_125 rfl (Or.inr ⟨rfl, rfl⟩) (k0 _ hk) ⟨rfl, rfl⟩
    · have hr := ifn hr hc
      refine r_aload_n dX2_readBook_112 rfl 0 rfl (nl rfl) ?_
      refine r_get 2 0 (o := a0) (w := (19, q106.2 a0 0)) (T := TX2) (ref := "FollowingRefs$Lines") rfl (by decide) rfl (by decide) inlX2 (wsl_5 _ (List.mem_of_getElem? (i := 14) rfl)) rfl dX2_readBook_113 rfl ?_
      refine r_bipush dX2_readBook_116 (by decide) (by decide) ?_
      obtain ⟨q118, hg118, hr⟩ := bnd hr
      refine k_V (ci := 9) (o := q106.2 a0 0) (T := TX9) (as := [(0, 59)]) (rest := []) (X := (some (2, q118.1), q118.2)) (oX9_take hg118) gX9_take rfl (by decide) rfl (wsl_65 _ (List.mem_of_getElem? (i := 11) rfl)) rfl dX2_readBook_118 rfl ?_
      refine r_scast 0 (v := (2, q118.1)) (w := (0, q118.1)) rfl zc hTz (st' := [(0, q118.1)]) rfl ?_
      refine r_if_ne dX2_readBook_121 (tgt := 126) (by decide) (fun hc => ?_) (fun hc => ?_)
      · have hr := ifn hr hc
        refine r_iinc (k := 1) (v := l1) dX2_readBook_126 rfl (by decide) (lv' := [(1, (0, w32 (l1 + 1))), (0, (12, a0)), (2, (0, l2))]) rfl ?_
        refine r_goto dX2_readBook_129 (tgt := 17) (by decide) ?_
        refine r_sub [1, 0] (lv' := [(0, (12, a0)), (1, (0, w32 (l1 + 1)))]) rfl ?_
        obtain rfl := Option.some.inj hr
        exact k1 _ _ hk
      · have hr := ifp hr hc
        refine r_iconst dX2_readBook_124 (by decide) ?_
        refine r_scast 0 (v := (0, 0)) (w := (2, 0)) rfl cz (fun _ => Or.inl rfl) (st' := [(2, 0)]) rfl ?_
        obtain rfl := Option.some.inj hr
        exact r_ret dX2_readBook_125 rfl (Or.inr ⟨rfl, rfl⟩) (k0 _ hk) ⟨rfl, rfl⟩
  · have hr := ifn hr hc
    refine r_aload_n dX2_readBook_88 rfl 0 rfl (nl rfl) ?_
    refine r_get 2 0 (o := a0) (w := (19, h a0 0)) (T := TX2) (ref := "FollowingRefs$Lines") rfl (by decide) rfl (by decide) inlX2 (wsl_5 _ (List.mem_of_getElem? (i := 14) rfl)) rfl dX2_readBook_89 rfl ?_
    refine r_iconst dX2_readBook_92 (by decide) ?_
    obtain ⟨q93, hg93, hr⟩ := bnd hr
    refine k_V (ci := 9) (o := h a0 0) (T := TX9) (as := [(0, 4)]) (rest := []) (X := (some (2, q93.1), q93.2)) (oX9_fail hg93) gX9_fail rfl (by decide) rfl (wsl_29 _ (List.mem_of_getElem? (i := 22) rfl)) rfl dX2_readBook_93 rfl ?_
    obtain rfl := Option.some.inj hr
    exact r_ret dX2_readBook_96 rfl (Or.inr ⟨rfl, rfl⟩) (k0 _ hk) ⟨rfl, rfl⟩
set_option maxRecDepth 100000 in
set_option maxHeartbeats 4000000 in
theorem oX2_readBook_s17 {h0 : hH} {a0 l1 : Int} {K : (hH × Int) ⊕ (Int × hH) → Prop} (k0 : ∀ r, K (.inr (r)) → x = (some (2, r.1), r.2)) (k1 : ∀ (h : hH) (l1 : Int), K (.inl (h, l1)) → Wq p l e R s m args below meth c D G A H0 true n0 M_X2_readBook x 0 0 17 [(0, (12, a0)), (1, (0, l1))] [] h) {r : (hH × Int) ⊕ (Int × hH)} (hr : fX2_readBook_s17 h0 a0 (h, l1) = some r) (hk : K r) : Wq p l e R s m args below meth c D G A H0 true n0 M_X2_readBook x 0 0 17 [(0, (12, a0)), (1, (0, l1))] [] h := by
  unfold fX2_readBook_s17 at hr
  refine r_iload_n dX2_readBook_17 rfl 1 rfl (Or.inl rfl) ?_
  refine r_sipush dX2_readBook_18 (by decide) (by decide) ?_
  refine r_icmp_ge dX2_readBook_21 (tgt := 132) (by decide) (fun hc => ?_) (fun hc => ?_)
  · have hr := ifn hr hc
    refine r_iconst dX2_readBook_132 (by decide) ?_
    refine r_scast 0 (v := (0, 1)) (w := (2, 1)) rfl cz (fun _ => Or.inr rfl) (st' := [(2, 1)]) rfl ?_
    obtain rfl := Option.some.inj hr
    exact r_ret dX2_readBook_133 rfl (Or.inr ⟨rfl, rfl⟩) (k0 _ hk) ⟨rfl, rfl⟩
  · have hr := ifp hr hc
    refine r_aload_n dX2_readBook_24 rfl 0 rfl (nl rfl) ?_
    refine r_get 2 0 (o := a0) (w := (19, h a0 0)) (T := TX2) (ref := "FollowingRefs$Lines") rfl (by decide) rfl (by decide) inlX2 (wsl_5 _ (List.mem_of_getElem? (i := 14) rfl)) rfl dX2_readBook_25 rfl ?_
    refine r_get 9 5 (o := h a0 0) (w := (0, h (h a0 0) 5)) (T := TX9) (ref := "FollowingRefs$Text") rfl (by decide) rfl (by decide) inlX9 (wsl_29 _ (List.mem_of_getElem? (i := 17) rfl)) rfl dX2_readBook_28 rfl ?_
    refine r_if_eq dX2_readBook_31 (tgt := 132) (by decide) (fun hc => ?_) (fun hc => ?_)
    · have hr := ifp hr hc
      refine r_iconst dX2_readBook_132 (by decide) ?_
      refine r_scast 0 (v := (0, 1)) (w := (2, 1)) rfl cz (fun _ => Or.inr rfl) (st' := [(2, 1)]) rfl ?_
      obtain rfl := Option.some.inj hr
      exact r_ret dX2_readBook_133 rfl (Or.inr ⟨rfl, rfl⟩) (k0 _ hk) ⟨rfl, rfl⟩
    · have hr := ifn hr hc
      refine r_aload_n dX2_readBook_34 rfl 0 rfl (nl rfl) ?_
      refine r_get 2 0 (o := a0) (w := (19, h a0 0)) (T := TX2) (ref := "FollowingRefs$Lines") rfl (by decide) rfl (by decide) inlX2 (wsl_5 _ (List.mem_of_getElem? (i := 14) rfl)) rfl dX2_readBook_35 rfl ?_
      refine r_get 9 5 (o := h a0 0) (w := (0, h (h a0 0) 5)) (T := TX9) (ref := "FollowingRefs$Text") rfl (by decide) rfl (by decide) inlX9 (wsl_29 _ (List.mem_of_getElem? (i := 17) rfl)) rfl dX2_readBook_38 rfl ?_
      refine r_istore_n dX2_readBook_41 rfl (Or.inl rfl) (by decide) (lv' := [(2, (0, h (h a0 0) 5)), (0, (12, a0)), (1, (0, l1))]) rfl ?_
      refine r_iload_n dX2_readBook_42 rfl 0 rfl (Or.inl rfl) ?_
      obtain ⟨r43, hg43, hr⟩ := bnd hr
      refine k_S (as := [(0, h (h a0 0) 5)]) (rest := []) (X := (some (2, r43), h)) (oX2_startsStatement hg43) gX2_startsStatement rfl (wsl_29 _ (List.mem_of_getElem? (i := 19) rfl)) rfl dX2_readBook_43 rfl ?_
      refine r_scast 0 (v := (2, r43)) (w := (0, r43)) rfl zc hTz (st' := [(0, r43)]) rfl ?_
      refine r_if_ne dX2_readBook_46 (tgt := 79) (by decide) (fun hc => ?_) (fun hc => ?_)
      · have hr := ifn hr hc
        refine r_sub [1, 2, 0] (lv' := [(0, (12, a0)), (1, (0, l1)), (2, (0, h (h a0 0) 5))]) rfl ?_
        exact oX2_readBook_b79 (K := K) (fun r z => k0 r z) (fun _ _ z => k1 _ _ z) hr hk
      · have hr := ifp hr hc
        refine r_iload_n dX2_readBook_49 rfl 0 rfl (Or.inl rfl) ?_
        refine r_sipush dX2_readBook_50 (by decide) (by decide) ?_
        refine r_icmp_eq dX2_readBook_53 (tgt := 79) (by decide) (fun hc => ?_) (fun hc => ?_)
        · have hr := ifp hr hc
          refine r_sub [1, 2, 0] (lv' := [(0, (12, a0)), (1, (0, l1)), (2, (0, h (h a0 0) 5))]) rfl ?_
          exact oX2_readBook_b79 (K := K) (fun r z => k0 r z) (fun _ _ z => k1 _ _ z) hr hk
        · have hr := ifn hr hc
          refine r_iload_n dX2_readBook_56 rfl 0 rfl (Or.inl rfl) ?_
          refine r_sipush dX2_readBook_57 (by decide) (by decide) ?_
          refine r_icmp_eq dX2_readBook_60 (tgt := 79) (by decide) (fun hc => ?_) (fun hc => ?_)
          · have hr := ifp hr hc
            refine r_sub [1, 2, 0] (lv' := [(0, (12, a0)), (1, (0, l1)), (2, (0, h (h a0 0) 5))]) rfl ?_
            exact oX2_readBook_b79 (K := K) (fun r z => k0 r z) (fun _ _ z => k1 _ _ z) hr hk
          · have hr := ifn hr hc
            refine r_iload_n dX2_readBook_63 rfl 0 rfl (Or.inl rfl) ?_
            refine r_sipush dX2_readBook_64 (by decide) (by decide) ?_
            refine r_icmp_eq dX2_readBook_67 (tgt := 79) (by decide) (fun hc => ?_) (fun hc => ?_)
            · have hr := ifp hr hc
              refine r_sub [1, 2, 0] (lv' := [(0, (12, a0)), (1, (0, l1)), (2, (0, h (h a0 0) 5))]) rfl ?_
              exact oX2_readBook_b79 (K := K) (fun r z => k0 r z) (fun _ _ z => k1 _ _ z) hr hk
            · have hr := ifn hr hc
              refine r_aload_n dX2_readBook_70 rfl 1 rfl (nl rfl) ?_
              refine r_get 2 0 (o := a0) (w := (19, h a0 0)) (T := TX2) (ref := "FollowingRefs$Lines") rfl (by decide) rfl (by decide) inlX2 (wsl_5 _ (List.mem_of_getElem? (i := 14) rfl)) rfl dX2_readBook_71 rfl ?_
              refine r_iconst dX2_readBook_74 (by decide) ?_
              obtain ⟨q75, hg75, hr⟩ := bnd hr
              refine k_V (ci := 9) (o := h a0 0) (T := TX9) (as := [(0, 1)]) (rest := []) (X := (some (2, q75.1), q75.2)) (oX9_fail hg75) gX9_fail rfl (by decide) rfl (wsl_29 _ (List.mem_of_getElem? (i := 22) rfl)) rfl dX2_readBook_75 rfl ?_
              obtain rfl := Option.some.inj hr
              exact r_ret dX2_readBook_78 rfl (Or.inr ⟨rfl, rfl⟩) (k0 _ hk) ⟨rfl, rfl⟩
set_option maxRecDepth 100000 in
set_option maxHeartbeats 4000000 in
theorem oX2_readBook_b0 {a0 : Int} {K : Int × hH → Prop} (k0 : ∀ r, K (r) → x = (some (2, r.1), r.2)) {r : Int × hH} (hr : fX2_readBook h a0 = some r) (hk : K r) : Wq p l e R s m args below meth c D G A H0 true n0 M_X2_readBook x 0 0 0 [(0, (12, a0))] [] h := by
  unfold fX2_readBook at hr
  refine r_aload_n dX2_readBook_0 rfl 0 rfl (nl rfl) ?_
  refine r_iconst dX2_readBook_1 (by decide) ?_
  obtain ⟨h2, hg2, hr⟩ := bnd hr
  refine r_put' 2 2 (t := 0) (ref := "FollowingRefs$Lines") hg2 rfl tyX2 tyX2_ok nmX2 rfl (by decide) rfl (by decide) inlX2 (wsl_29 _ (List.mem_of_getElem? (i := 16) rfl)) rfl rfl (by decide +kernel) (by decide) rfl (Or.inl ⟨rfl, rfl⟩) dX2_readBook_2 ?_
  refine r_aload_n dX2_readBook_5 rfl 0 rfl (nl rfl) ?_
  refine r_get 2 0 (o := a0) (w := (19, h2 a0 0)) (T := TX2) (ref := "FollowingRefs$Lines") rfl (by decide) rfl (by decide) inlX2 (wsl_5 _ (List.mem_of_getElem? (i := 14) rfl)) rfl dX2_readBook_6 rfl ?_
  refine r_sipush dX2_readBook_9 (by decide) (by decide) ?_
  obtain ⟨h12, hg12, hr⟩ := bnd hr
  refine k_V (ci := 9) (o := h2 a0 0) (T := TX9) (as := [(0, 400)]) (rest := []) (X := (none, h12)) (oX9_start hg12) gX9_start rfl (by decide) rfl (wsl_29 _ (List.mem_of_getElem? (i := 18) rfl)) rfl dX2_readBook_12 rfl ?_
  refine r_iconst dX2_readBook_15 (by decide) ?_
  refine r_istore_n dX2_readBook_16 rfl (Or.inl rfl) (by decide) (lv' := [(1, (0, 0)), (0, (12, a0))]) rfl ?_
  refine r_sub [1, 0] (lv' := [(0, (12, a0)), (1, (0, 0))]) rfl ?_
  exact lp_ok (w := fun (q : hH × Int) => Wq p l e R s m args below meth c D G A H0 true n0 M_X2_readBook x 0 0 17 [(0, (12, a0)), (1, (0, q.2))] [] (q.1)) (K := K) (fun ⟨q0, q1⟩ r h1 h2 => oX2_readBook_s17 (K := Sum.elim (fun (q : hH × Int) => Wq p l e R s m args below meth c D G A H0 true n0 M_X2_readBook x 0 0 17 [(0, (12, a0)), (1, (0, q.2))] [] (q.1)) (K)) (fun r z => k0 r z) (fun _ _ z => z) h1 h2) hr hk
end M_X2_readBook
theorem oX2_readBook {l : Launch} {D : va_G} {G : gG} {h : hH} {a0 : Int} {r : Int × hH} (hr : fX2_readBook h a0 = some r) : Ctr l D G true yX2_readBook M_X2_readBook [(12, a0)] h (some (2, r.1), r.2) :=
  Ctr_of (by decide) rfl (fun z => by cases z) (nl rfl) (fun {p e R s m args below meth c A H0} => by
    exact oX2_readBook_b0 (K := fun z9 => z9 = r) (fun r9 z => by rw [z]) hr rfl)
/-! X3_reset -/
theorem dX3_reset_0 : decode cX3_reset 0 = .ok (.aload_n 0, 1) := by decide +kernel
theorem dX3_reset_1 : decode cX3_reset 1 = .ok (.iconst 0, 1) := by decide +kernel
theorem dX3_reset_2 : decode cX3_reset 2 = .ok (.putfield 21, 3) := by decide +kernel
theorem dX3_reset_5 : decode cX3_reset 5 = .ok (.aload_n 0, 1) := by decide +kernel
theorem dX3_reset_6 : decode cX3_reset 6 = .ok (.iconst 0, 1) := by decide +kernel
theorem dX3_reset_7 : decode cX3_reset 7 = .ok (.putfield 25, 3) := by decide +kernel
theorem dX3_reset_10 : decode cX3_reset 10 = .ok (.return_, 1) := by decide +kernel
abbrev M_X3_reset : mM := (cX3_reset, 1, RX3, none, false, 0, 0, 0, 0)
theorem gX3_reset : cI yX3_reset M_X3_reset 0 := ⟨(wsl_22 _ (List.mem_of_getElem? (i := 20) rfl)), (wsl_22 _ (List.mem_of_getElem? (i := 21) rfl)), (wsl_4 _ (List.mem_of_getElem? (i := 5) rfl)), (wsl_22 _ (List.mem_of_getElem? (i := 22) rfl)), by decide +kernel⟩
noncomputable def fX3_reset (h : hH) (a0 : Int) : Option (hH) :=
  (pput h a0 0 0).bind fun h2 =>
  (pput h2 a0 1 0).bind fun h7 =>
  some h7
section M_X3_reset
variable {p : Program} {l : Launch} {e : Env} {R : Room} {s : State} {m : MethodId} {args : Array Value} {below : List Frame} {meth : Method} {c : Code} {D : va_G} {G : gG} {A : Nat → Prop} {H0 : Heap} {n0 : Int} {x : Option vV × hH} {h : hH}
set_option maxRecDepth 100000 in
set_option maxHeartbeats 4000000 in
theorem oX3_reset_b0 {a0 : Int} {K : hH → Prop} (k0 : ∀ r, K (r) → x = (none, r)) {r : hH} (hr : fX3_reset h a0 = some r) (hk : K r) : Wq p l e R s m args below meth c D G A H0 true n0 M_X3_reset x 0 0 0 [(0, (13, a0))] [] h := by
  unfold fX3_reset at hr
  refine r_aload_n dX3_reset_0 rfl 0 rfl (nl rfl) ?_
  refine r_iconst dX3_reset_1 (by decide) ?_
  obtain ⟨h2, hg2, hr⟩ := bnd hr
  refine r_put' 3 0 (t := 0) (ref := "FollowingRefs$Rows") hg2 rfl tyX3 tyX3_ok nmX3 rfl (by decide) rfl (by decide) inlX3 (wsl_22 _ (List.mem_of_getElem? (i := 23) rfl)) rfl rfl (by decide +kernel) (by decide) rfl (Or.inl ⟨rfl, rfl⟩) dX3_reset_2 ?_
  refine r_aload_n dX3_reset_5 rfl 0 rfl (nl rfl) ?_
  refine r_iconst dX3_reset_6 (by decide) ?_
  obtain ⟨h7, hg7, hr⟩ := bnd hr
  refine r_put' 3 1 (t := 0) (ref := "FollowingRefs$Rows") hg7 rfl tyX3 tyX3_ok nmX3 rfl (by decide) rfl (by decide) inlX3 (wsl_23 _ (List.mem_of_getElem? (i := 0) rfl)) rfl rfl (by decide +kernel) (by decide) rfl (Or.inl ⟨rfl, rfl⟩) dX3_reset_7 ?_
  obtain rfl := Option.some.inj hr
  exact r_vret dX3_reset_10 rfl (k0 _ hk) ⟨rfl, rfl⟩
end M_X3_reset
theorem oX3_reset {l : Launch} {D : va_G} {G : gG} {h : hH} {a0 : Int} {r : hH} (hr : fX3_reset h a0 = some r) : Ctr l D G true yX3_reset M_X3_reset [(13, a0)] h (none, r) :=
  Ctr_of (by decide) rfl (fun z => by cases z) (nl rfl) (fun {p e R s m args below meth c A H0} => by
    exact oX3_reset_b0 (K := fun z9 => z9 = r) (fun r9 z => by rw [z]) hr rfl)
/-! X3_slotOf -/
theorem dX3_slotOf_0 : decode cX3_slotOf 0 = .ok (.iconst 0, 1) := by decide +kernel
theorem dX3_slotOf_1 : decode cX3_slotOf 1 = .ok (.istore_n 2, 1) := by decide +kernel
theorem dX3_slotOf_2 : decode cX3_slotOf 2 = .ok (.iload_n 2, 1) := by decide +kernel
theorem dX3_slotOf_3 : decode cX3_slotOf 3 = .ok (.aload_n 0, 1) := by decide +kernel
theorem dX3_slotOf_4 : decode cX3_slotOf 4 = .ok (.getfield 21, 3) := by decide +kernel
theorem dX3_slotOf_7 : decode cX3_slotOf 7 = .ok (.if_icmp .ge 23, 3) := by decide +kernel
theorem dX3_slotOf_10 : decode cX3_slotOf 10 = .ok (.aload_n 0, 1) := by decide +kernel
theorem dX3_slotOf_11 : decode cX3_slotOf 11 = .ok (.getfield 9, 3) := by decide +kernel
theorem dX3_slotOf_14 : decode cX3_slotOf 14 = .ok (.iload_n 2, 1) := by decide +kernel
theorem dX3_slotOf_15 : decode cX3_slotOf 15 = .ok (.invokestatic 46, 3) := by decide +kernel
theorem dX3_slotOf_18 : decode cX3_slotOf 18 = .ok (.iload_n 1, 1) := by decide +kernel
theorem dX3_slotOf_19 : decode cX3_slotOf 19 = .ok (.if_icmp .ne 5, 3) := by decide +kernel
theorem dX3_slotOf_22 : decode cX3_slotOf 22 = .ok (.iload_n 2, 1) := by decide +kernel
theorem dX3_slotOf_23 : decode cX3_slotOf 23 = .ok (.ireturn, 1) := by decide +kernel
theorem dX3_slotOf_24 : decode cX3_slotOf 24 = .ok (.iinc 2 1, 3) := by decide +kernel
theorem dX3_slotOf_27 : decode cX3_slotOf 27 = .ok (.goto (-25), 3) := by decide +kernel
theorem dX3_slotOf_30 : decode cX3_slotOf 30 = .ok (.iconst (-1), 1) := by decide +kernel
theorem dX3_slotOf_31 : decode cX3_slotOf 31 = .ok (.ireturn, 1) := by decide +kernel
abbrev M_X3_slotOf : mM := (cX3_slotOf, 3, RX3, some .int, false, 1, 21, 0, 0)
theorem gX3_slotOf : cI yX3_slotOf M_X3_slotOf 1 := ⟨(wsl_54 _ (List.mem_of_getElem? (i := 4) rfl)), (wsl_54 _ (List.mem_of_getElem? (i := 5) rfl)), (wsl_4 _ (List.mem_of_getElem? (i := 5) rfl)), (wsl_54 _ (List.mem_of_getElem? (i := 6) rfl)), by decide +kernel⟩
noncomputable def fX3_slotOf_s2 (h : hH) (a0 a1 : Int) : Int → Option ((Int) ⊕ (Int)) := fun l2 =>
  if l2 < h a0 0 then
    (fX11_at h (h a0 2) l2).bind fun r15 =>
    if r15 = a1 then
      some (.inr (l2))
    else
      some (.inl (w32 (l2 + 1)))
  else
    some (.inr (-1))
noncomputable def fX3_slotOf (h : hH) (a0 a1 : Int) : Option (Int) :=
  lpO (fX3_slotOf_s2 h a0 a1) 0
section M_X3_slotOf
variable {p : Program} {l : Launch} {e : Env} {R : Room} {s : State} {m : MethodId} {args : Array Value} {below : List Frame} {meth : Method} {c : Code} {D : va_G} {G : gG} {A : Nat → Prop} {H0 : Heap} {n0 : Int} {x : Option vV × hH} {h : hH}
set_option maxRecDepth 100000 in
set_option maxHeartbeats 4000000 in
theorem oX3_slotOf_s2 {a0 a1 l2 : Int} {K : (Int) ⊕ (Int) → Prop} (k0 : ∀ r, K (.inr (r)) → x = (some (0, r), h)) (k1 : ∀ (l2 : Int), K (.inl l2) → Wq p l e R s m args below meth c D G A H0 true n0 M_X3_slotOf x 0 0 2 [(0, (13, a0)), (1, (0, a1)), (2, (0, l2))] [] h) {r : (Int) ⊕ (Int)} (hr : fX3_slotOf_s2 h a0 a1 l2 = some r) (hk : K r) : Wq p l e R s m args below meth c D G A H0 true n0 M_X3_slotOf x 0 0 2 [(0, (13, a0)), (1, (0, a1)), (2, (0, l2))] [] h := by
  unfold fX3_slotOf_s2 at hr
  refine r_iload_n dX3_slotOf_2 rfl 2 rfl (Or.inl rfl) ?_
  refine r_aload_n dX3_slotOf_3 rfl 0 rfl (nl rfl) ?_
  refine r_get 3 0 (o := a0) (w := (0, h a0 0)) (T := TX3) (ref := "FollowingRefs$Rows") rfl (by decide) rfl (by decide) inlX3 (wsl_22 _ (List.mem_of_getElem? (i := 23) rfl)) rfl dX3_slotOf_4 rfl ?_
  refine r_icmp_ge dX3_slotOf_7 (tgt := 30) (by decide) (fun hc => ?_) (fun hc => ?_)
  · have hr := ifn hr hc
    refine r_iconst dX3_slotOf_30 (by decide) ?_
    obtain rfl := Option.some.inj hr
    exact r_ret dX3_slotOf_31 rfl (Or.inl ⟨rfl, rfl⟩) (k0 _ hk) ⟨rfl, rfl⟩
  · have hr := ifp hr hc
    refine r_aload_n dX3_slotOf_10 rfl 0 rfl (nl rfl) ?_
    refine r_get 3 2 (o := a0) (w := (50, h a0 2)) (T := TX3) (ref := "FollowingRefs$Rows") rfl (by decide) rfl (by decide) inlX3 (wsl_4 _ (List.mem_of_getElem? (i := 11) rfl)) rfl dX3_slotOf_11 rfl ?_
    refine r_iload_n dX3_slotOf_14 rfl 2 rfl (Or.inl rfl) ?_
    obtain ⟨r15, hg15, hr⟩ := bnd hr
    refine k_SN (host := "FollowingRefs") (as := [(50, h a0 2), (0, l2)]) (rest := []) (X := (some (0, r15), h)) (oX11_at hg15) gX11_at rfl (List.mem_of_getElem? (i := 20) rfl) rfl dX3_slotOf_15 rfl ?_
    refine r_iload_n dX3_slotOf_18 rfl 1 rfl (Or.inl rfl) ?_
    refine r_icmp_ne dX3_slotOf_19 (tgt := 24) (by decide) (fun hc => ?_) (fun hc => ?_)
    · have hr := ifn hr hc
      refine r_iinc (k := 2) (v := l2) dX3_slotOf_24 rfl (by decide) (lv' := [(2, (0, w32 (l2 + 1))), (0, (13, a0)), (1, (0, a1))]) rfl ?_
      refine r_goto dX3_slotOf_27 (tgt := 2) (by decide) ?_
      refine r_sub [1, 2, 0] (lv' := [(0, (13, a0)), (1, (0, a1)), (2, (0, w32 (l2 + 1)))]) rfl ?_
      obtain rfl := Option.some.inj hr
      exact k1 _ hk
    · have hr := ifp hr hc
      refine r_iload_n dX3_slotOf_22 rfl 2 rfl (Or.inl rfl) ?_
      obtain rfl := Option.some.inj hr
      exact r_ret dX3_slotOf_23 rfl (Or.inl ⟨rfl, rfl⟩) (k0 _ hk) ⟨rfl, rfl⟩
set_option maxRecDepth 100000 in
set_option maxHeartbeats 4000000 in
theorem oX3_slotOf_b0 {a0 a1 : Int} {K : Int → Prop} (k0 : ∀ r, K (r) → x = (some (0, r), h)) {r : Int} (hr : fX3_slotOf h a0 a1 = some r) (hk : K r) : Wq p l e R s m args below meth c D G A H0 true n0 M_X3_slotOf x 0 0 0 [(0, (13, a0)), (1, (0, a1))] [] h := by
  unfold fX3_slotOf at hr
  refine r_iconst dX3_slotOf_0 (by decide) ?_
  refine r_istore_n dX3_slotOf_1 rfl (Or.inl rfl) (by decide) (lv' := [(2, (0, 0)), (0, (13, a0)), (1, (0, a1))]) rfl ?_
  refine r_sub [1, 2, 0] (lv' := [(0, (13, a0)), (1, (0, a1)), (2, (0, 0))]) rfl ?_
  exact lp_ok (w := fun (q : Int) => Wq p l e R s m args below meth c D G A H0 true n0 M_X3_slotOf x 0 0 2 [(0, (13, a0)), (1, (0, a1)), (2, (0, q))] [] (h)) (K := K) (fun q r h1 h2 => oX3_slotOf_s2 (K := Sum.elim (fun (q : Int) => Wq p l e R s m args below meth c D G A H0 true n0 M_X3_slotOf x 0 0 2 [(0, (13, a0)), (1, (0, a1)), (2, (0, q))] [] (h)) (K)) (fun r z => k0 r z) (fun _ z => z) h1 h2) hr hk
end M_X3_slotOf
theorem oX3_slotOf {l : Launch} {D : va_G} {G : gG} {h : hH} {a0 a1 : Int} {r : Int} (hr : fX3_slotOf h a0 a1 = some r) : Ctr l D G true yX3_slotOf M_X3_slotOf [(13, a0), (0, a1)] h (some (0, r), h) :=
  Ctr_of (by decide) rfl (fun z => by cases z) (nl rfl) (fun {p e R s m args below meth c A H0} => by
    exact oX3_slotOf_b0 (K := fun z9 => z9 = r) (fun r9 z => by rw [z]) hr rfl)
/-! X3_countOf -/
theorem dX3_countOf_0 : decode cX3_countOf 0 = .ok (.iconst 0, 1) := by decide +kernel
theorem dX3_countOf_1 : decode cX3_countOf 1 = .ok (.istore_n 2, 1) := by decide +kernel
theorem dX3_countOf_2 : decode cX3_countOf 2 = .ok (.iconst 0, 1) := by decide +kernel
theorem dX3_countOf_3 : decode cX3_countOf 3 = .ok (.istore_n 3, 1) := by decide +kernel
theorem dX3_countOf_4 : decode cX3_countOf 4 = .ok (.iload_n 3, 1) := by decide +kernel
theorem dX3_countOf_5 : decode cX3_countOf 5 = .ok (.aload_n 0, 1) := by decide +kernel
theorem dX3_countOf_6 : decode cX3_countOf 6 = .ok (.getfield 21, 3) := by decide +kernel
theorem dX3_countOf_9 : decode cX3_countOf 9 = .ok (.if_icmp .ge 24, 3) := by decide +kernel
theorem dX3_countOf_12 : decode cX3_countOf 12 = .ok (.aload_n 0, 1) := by decide +kernel
theorem dX3_countOf_13 : decode cX3_countOf 13 = .ok (.getfield 15, 3) := by decide +kernel
theorem dX3_countOf_16 : decode cX3_countOf 16 = .ok (.iload_n 3, 1) := by decide +kernel
theorem dX3_countOf_17 : decode cX3_countOf 17 = .ok (.invokestatic 46, 3) := by decide +kernel
theorem dX3_countOf_20 : decode cX3_countOf 20 = .ok (.iload_n 1, 1) := by decide +kernel
theorem dX3_countOf_21 : decode cX3_countOf 21 = .ok (.if_icmp .ne 6, 3) := by decide +kernel
theorem dX3_countOf_24 : decode cX3_countOf 24 = .ok (.iinc 2 1, 3) := by decide +kernel
theorem dX3_countOf_27 : decode cX3_countOf 27 = .ok (.iinc 3 1, 3) := by decide +kernel
theorem dX3_countOf_30 : decode cX3_countOf 30 = .ok (.goto (-26), 3) := by decide +kernel
theorem dX3_countOf_33 : decode cX3_countOf 33 = .ok (.iload_n 2, 1) := by decide +kernel
theorem dX3_countOf_34 : decode cX3_countOf 34 = .ok (.ireturn, 1) := by decide +kernel
abbrev M_X3_countOf : mM := (cX3_countOf, 4, RX3, some .int, false, 1, 21, 0, 0)
theorem gX3_countOf : cI yX3_countOf M_X3_countOf 1 := ⟨(wsl_53 _ (List.mem_of_getElem? (i := 0) rfl)), (wsl_53 _ (List.mem_of_getElem? (i := 1) rfl)), (wsl_4 _ (List.mem_of_getElem? (i := 5) rfl)), (wsl_53 _ (List.mem_of_getElem? (i := 2) rfl)), by decide +kernel⟩
noncomputable def fX3_countOf_s4 (h : hH) (a0 a1 : Int) : Int × Int → Option ((Int × Int) ⊕ (Int)) := fun (l2, l3) =>
  if l3 < h a0 0 then
    (fX11_at h (h a0 3) l3).bind fun r17 =>
    if r17 = a1 then
      some (.inl (w32 (l2 + 1), w32 (l3 + 1)))
    else
      some (.inl (l2, w32 (l3 + 1)))
  else
    some (.inr (l2))
noncomputable def fX3_countOf (h : hH) (a0 a1 : Int) : Option (Int) :=
  lpO (fX3_countOf_s4 h a0 a1) (0, 0)
section M_X3_countOf
variable {p : Program} {l : Launch} {e : Env} {R : Room} {s : State} {m : MethodId} {args : Array Value} {below : List Frame} {meth : Method} {c : Code} {D : va_G} {G : gG} {A : Nat → Prop} {H0 : Heap} {n0 : Int} {x : Option vV × hH} {h : hH}
set_option maxRecDepth 100000 in
set_option maxHeartbeats 4000000 in
theorem oX3_countOf_s4 {a0 a1 l2 l3 : Int} {K : (Int × Int) ⊕ (Int) → Prop} (k0 : ∀ r, K (.inr (r)) → x = (some (0, r), h)) (k1 : ∀ (l2 : Int) (l3 : Int), K (.inl (l2, l3)) → Wq p l e R s m args below meth c D G A H0 true n0 M_X3_countOf x 0 0 4 [(0, (13, a0)), (1, (0, a1)), (2, (0, l2)), (3, (0, l3))] [] h) {r : (Int × Int) ⊕ (Int)} (hr : fX3_countOf_s4 h a0 a1 (l2, l3) = some r) (hk : K r) : Wq p l e R s m args below meth c D G A H0 true n0 M_X3_countOf x 0 0 4 [(0, (13, a0)), (1, (0, a1)), (2, (0, l2)), (3, (0, l3))] [] h := by
  unfold fX3_countOf_s4 at hr
  refine r_iload_n dX3_countOf_4 rfl 3 rfl (Or.inl rfl) ?_
  refine r_aload_n dX3_countOf_5 rfl 0 rfl (nl rfl) ?_
  refine r_get 3 0 (o := a0) (w := (0, h a0 0)) (T := TX3) (ref := "FollowingRefs$Rows") rfl (by decide) rfl (by decide) inlX3 (wsl_22 _ (List.mem_of_getElem? (i := 23) rfl)) rfl dX3_countOf_6 rfl ?_
  refine r_icmp_ge dX3_countOf_9 (tgt := 33) (by decide) (fun hc => ?_) (fun hc => ?_)
  · have hr := ifn hr hc
    refine r_iload_n dX3_countOf_33 rfl 2 rfl (Or.inl rfl) ?_
    obtain rfl := Option.some.inj hr
    exact r_ret dX3_countOf_34 rfl (Or.inl ⟨rfl, rfl⟩) (k0 _ hk) ⟨rfl, rfl⟩
  · have hr := ifp hr hc
    refine r_aload_n dX3_countOf_12 rfl 0 rfl (nl rfl) ?_
    refine r_get 3 3 (o := a0) (w := (50, h a0 3)) (T := TX3) (ref := "FollowingRefs$Rows") rfl (by decide) rfl (by decide) inlX3 (wsl_4 _ (List.mem_of_getElem? (i := 12) rfl)) rfl dX3_countOf_13 rfl ?_
    refine r_iload_n dX3_countOf_16 rfl 3 rfl (Or.inl rfl) ?_
    obtain ⟨r17, hg17, hr⟩ := bnd hr
    refine k_SN (host := "FollowingRefs") (as := [(50, h a0 3), (0, l3)]) (rest := []) (X := (some (0, r17), h)) (oX11_at hg17) gX11_at rfl (List.mem_of_getElem? (i := 20) rfl) rfl dX3_countOf_17 rfl ?_
    refine r_iload_n dX3_countOf_20 rfl 1 rfl (Or.inl rfl) ?_
    refine r_icmp_ne dX3_countOf_21 (tgt := 27) (by decide) (fun hc => ?_) (fun hc => ?_)
    · have hr := ifn hr hc
      refine r_iinc (k := 3) (v := l3) dX3_countOf_27 rfl (by decide) (lv' := [(3, (0, w32 (l3 + 1))), (0, (13, a0)), (1, (0, a1)), (2, (0, l2))]) rfl ?_
      refine r_goto dX3_countOf_30 (tgt := 4) (by decide) ?_
      refine r_sub [1, 2, 3, 0] (lv' := [(0, (13, a0)), (1, (0, a1)), (2, (0, l2)), (3, (0, w32 (l3 + 1)))]) rfl ?_
      obtain rfl := Option.some.inj hr
      exact k1 _ _ hk
    · have hr := ifp hr hc
      refine r_iinc (k := 2) (v := l2) dX3_countOf_24 rfl (by decide) (lv' := [(2, (0, w32 (l2 + 1))), (0, (13, a0)), (1, (0, a1)), (3, (0, l3))]) rfl ?_
      refine r_iinc (k := 3) (v := l3) dX3_countOf_27 rfl (by decide) (lv' := [(3, (0, w32 (l3 + 1))), (2, (0, w32 (l2 + 1))), (0, (13, a0)), (1, (0, a1))]) rfl ?_
      refine r_goto dX3_countOf_30 (tgt := 4) (by decide) ?_
      refine r_sub [2, 3, 1, 0] (lv' := [(0, (13, a0)), (1, (0, a1)), (2, (0, w32 (l2 + 1))), (3, (0, w32 (l3 + 1)))]) rfl ?_
      obtain rfl := Option.some.inj hr
      exact k1 _ _ hk
set_option maxRecDepth 100000 in
set_option maxHeartbeats 4000000 in
theorem oX3_countOf_b0 {a0 a1 : Int} {K : Int → Prop} (k0 : ∀ r, K (r) → x = (some (0, r), h)) {r : Int} (hr : fX3_countOf h a0 a1 = some r) (hk : K r) : Wq p l e R s m args below meth c D G A H0 true n0 M_X3_countOf x 0 0 0 [(0, (13, a0)), (1, (0, a1))] [] h := by
  unfold fX3_countOf at hr
  refine r_iconst dX3_countOf_0 (by decide) ?_
  refine r_istore_n dX3_countOf_1 rfl (Or.inl rfl) (by decide) (lv' := [(2, (0, 0)), (0, (13, a0)), (1, (0, a1))]) rfl ?_
  refine r_iconst dX3_countOf_2 (by decide) ?_
  refine r_istore_n dX3_countOf_3 rfl (Or.inl rfl) (by decide) (lv' := [(3, (0, 0)), (2, (0, 0)), (0, (13, a0)), (1, (0, a1))]) rfl ?_
  refine r_sub [2, 3, 1, 0] (lv' := [(0, (13, a0)), (1, (0, a1)), (2, (0, 0)), (3, (0, 0))]) rfl ?_
  exact lp_ok (w := fun (q : Int × Int) => Wq p l e R s m args below meth c D G A H0 true n0 M_X3_countOf x 0 0 4 [(0, (13, a0)), (1, (0, a1)), (2, (0, q.1)), (3, (0, q.2))] [] (h)) (K := K) (fun ⟨q0, q1⟩ r h1 h2 => oX3_countOf_s4 (K := Sum.elim (fun (q : Int × Int) => Wq p l e R s m args below meth c D G A H0 true n0 M_X3_countOf x 0 0 4 [(0, (13, a0)), (1, (0, a1)), (2, (0, q.1)), (3, (0, q.2))] [] (h)) (K)) (fun r z => k0 r z) (fun _ _ z => z) h1 h2) hr hk
end M_X3_countOf
theorem oX3_countOf {l : Launch} {D : va_G} {G : gG} {h : hH} {a0 a1 : Int} {r : Int} (hr : fX3_countOf h a0 a1 = some r) : Ctr l D G true yX3_countOf M_X3_countOf [(13, a0), (0, a1)] h (some (0, r), h) :=
  Ctr_of (by decide) rfl (fun z => by cases z) (nl rfl) (fun {p e R s m args below meth c A H0} => by
    exact oX3_countOf_b0 (K := fun z9 => z9 = r) (fun r9 z => by rw [z]) hr rfl)
/-! X3_numberOf -/
theorem dX3_numberOf_0 : decode cX3_numberOf 0 = .ok (.iload_n 2, 1) := by decide +kernel
theorem dX3_numberOf_1 : decode cX3_numberOf 1 = .ok (.istore_n 3, 1) := by decide +kernel
theorem dX3_numberOf_2 : decode cX3_numberOf 2 = .ok (.iconst 0, 1) := by decide +kernel
theorem dX3_numberOf_3 : decode cX3_numberOf 3 = .ok (.istore 4, 2) := by decide +kernel
theorem dX3_numberOf_5 : decode cX3_numberOf 5 = .ok (.iload 4, 2) := by decide +kernel
theorem dX3_numberOf_7 : decode cX3_numberOf 7 = .ok (.aload_n 0, 1) := by decide +kernel
theorem dX3_numberOf_8 : decode cX3_numberOf 8 = .ok (.getfield 21, 3) := by decide +kernel
theorem dX3_numberOf_11 : decode cX3_numberOf 11 = .ok (.if_icmp .ge 39, 3) := by decide +kernel
theorem dX3_numberOf_14 : decode cX3_numberOf 14 = .ok (.aload_n 0, 1) := by decide +kernel
theorem dX3_numberOf_15 : decode cX3_numberOf 15 = .ok (.getfield 15, 3) := by decide +kernel
theorem dX3_numberOf_18 : decode cX3_numberOf 18 = .ok (.iload 4, 2) := by decide +kernel
theorem dX3_numberOf_20 : decode cX3_numberOf 20 = .ok (.invokestatic 46, 3) := by decide +kernel
theorem dX3_numberOf_23 : decode cX3_numberOf 23 = .ok (.iload_n 1, 1) := by decide +kernel
theorem dX3_numberOf_24 : decode cX3_numberOf 24 = .ok (.if_icmp .ne 20, 3) := by decide +kernel
theorem dX3_numberOf_27 : decode cX3_numberOf 27 = .ok (.iload_n 3, 1) := by decide +kernel
theorem dX3_numberOf_28 : decode cX3_numberOf 28 = .ok (.ifCond .ne 13, 3) := by decide +kernel
theorem dX3_numberOf_31 : decode cX3_numberOf 31 = .ok (.aload_n 0, 1) := by decide +kernel
theorem dX3_numberOf_32 : decode cX3_numberOf 32 = .ok (.getfield 9, 3) := by decide +kernel
theorem dX3_numberOf_35 : decode cX3_numberOf 35 = .ok (.iload 4, 2) := by decide +kernel
theorem dX3_numberOf_37 : decode cX3_numberOf 37 = .ok (.invokestatic 46, 3) := by decide +kernel
theorem dX3_numberOf_40 : decode cX3_numberOf 40 = .ok (.ireturn, 1) := by decide +kernel
theorem dX3_numberOf_41 : decode cX3_numberOf 41 = .ok (.iinc 3 (-1), 3) := by decide +kernel
theorem dX3_numberOf_44 : decode cX3_numberOf 44 = .ok (.iinc 4 1, 3) := by decide +kernel
theorem dX3_numberOf_47 : decode cX3_numberOf 47 = .ok (.goto (-42), 3) := by decide +kernel
theorem dX3_numberOf_50 : decode cX3_numberOf 50 = .ok (.iconst (-1), 1) := by decide +kernel
theorem dX3_numberOf_51 : decode cX3_numberOf 51 = .ok (.ireturn, 1) := by decide +kernel
abbrev M_X3_numberOf : mM := (cX3_numberOf, 5, RX3, some .int, false, 1, 21, 0, 0)
theorem gX3_numberOf : cI yX3_numberOf M_X3_numberOf 2 := ⟨(wsl_53 _ (List.mem_of_getElem? (i := 16) rfl)), (wsl_53 _ (List.mem_of_getElem? (i := 17) rfl)), (wsl_4 _ (List.mem_of_getElem? (i := 5) rfl)), (wsl_53 _ (List.mem_of_getElem? (i := 18) rfl)), by decide +kernel⟩
noncomputable def fX3_numberOf_s5 (h : hH) (a0 a1 : Int) : Int × Int → Option ((Int × Int) ⊕ (Int)) := fun (l3, l4) =>
  if l4 < h a0 0 then
    (fX11_at h (h a0 3) l4).bind fun r20 =>
    if r20 = a1 then
      if l3 = 0 then
        (fX11_at h (h a0 2) l4).bind fun r37 =>
        some (.inr (r37))
      else
        some (.inl (w32 (l3 + (-1)), w32 (l4 + 1)))
    else
      some (.inl (l3, w32 (l4 + 1)))
  else
    some (.inr (-1))
noncomputable def fX3_numberOf (h : hH) (a0 a1 a2 : Int) : Option (Int) :=
  lpO (fX3_numberOf_s5 h a0 a1) (a2, 0)
section M_X3_numberOf
variable {p : Program} {l : Launch} {e : Env} {R : Room} {s : State} {m : MethodId} {args : Array Value} {below : List Frame} {meth : Method} {c : Code} {D : va_G} {G : gG} {A : Nat → Prop} {H0 : Heap} {n0 : Int} {x : Option vV × hH} {h : hH}
set_option maxRecDepth 100000 in
set_option maxHeartbeats 4000000 in
theorem oX3_numberOf_s5 {a0 a1 l3 l4 : Int} {K : (Int × Int) ⊕ (Int) → Prop} (k0 : ∀ r, K (.inr (r)) → x = (some (0, r), h)) (k1 : ∀ (l3 : Int) (l4 : Int), K (.inl (l3, l4)) → Wq p l e R s m args below meth c D G A H0 true n0 M_X3_numberOf x 0 0 5 [(0, (13, a0)), (1, (0, a1)), (3, (0, l3)), (4, (0, l4))] [] h) {r : (Int × Int) ⊕ (Int)} (hr : fX3_numberOf_s5 h a0 a1 (l3, l4) = some r) (hk : K r) : Wq p l e R s m args below meth c D G A H0 true n0 M_X3_numberOf x 0 0 5 [(0, (13, a0)), (1, (0, a1)), (3, (0, l3)), (4, (0, l4))] [] h := by
  unfold fX3_numberOf_s5 at hr
  refine r_iload dX3_numberOf_5 3 rfl (Or.inl rfl) ?_
  refine r_aload_n dX3_numberOf_7 rfl 0 rfl (nl rfl) ?_
  refine r_get 3 0 (o := a0) (w := (0, h a0 0)) (T := TX3) (ref := "FollowingRefs$Rows") rfl (by decide) rfl (by decide) inlX3 (wsl_22 _ (List.mem_of_getElem? (i := 23) rfl)) rfl dX3_numberOf_8 rfl ?_
  refine r_icmp_ge dX3_numberOf_11 (tgt := 50) (by decide) (fun hc => ?_) (fun hc => ?_)
  · have hr := ifn hr hc
    refine r_iconst dX3_numberOf_50 (by decide) ?_
    obtain rfl := Option.some.inj hr
    exact r_ret dX3_numberOf_51 rfl (Or.inl ⟨rfl, rfl⟩) (k0 _ hk) ⟨rfl, rfl⟩
  · have hr := ifp hr hc
    refine r_aload_n dX3_numberOf_14 rfl 0 rfl (nl rfl) ?_
    refine r_get 3 3 (o := a0) (w := (50, h a0 3)) (T := TX3) (ref := "FollowingRefs$Rows") rfl (by decide) rfl (by decide) inlX3 (wsl_4 _ (List.mem_of_getElem? (i := 12) rfl)) rfl dX3_numberOf_15 rfl ?_
    refine r_iload dX3_numberOf_18 3 rfl (Or.inl rfl) ?_
    obtain ⟨r20, hg20, hr⟩ := bnd hr
    refine k_SN (host := "FollowingRefs") (as := [(50, h a0 3), (0, l4)]) (rest := []) (X := (some (0, r20), h)) (oX11_at hg20) gX11_at rfl (List.mem_of_getElem? (i := 20) rfl) rfl dX3_numberOf_20 rfl ?_
    refine r_iload_n dX3_numberOf_23 rfl 1 rfl (Or.inl rfl) ?_
    refine r_icmp_ne dX3_numberOf_24 (tgt := 44) (by decide) (fun hc => ?_) (fun hc => ?_)
    · have hr := ifn hr hc
      refine r_iinc (k := 3) (v := l4) dX3_numberOf_44 rfl (by decide) (lv' := [(4, (0, w32 (l4 + 1))), (0, (13, a0)), (1, (0, a1)), (3, (0, l3))]) rfl ?_
      refine r_goto dX3_numberOf_47 (tgt := 5) (by decide) ?_
      refine r_sub [1, 2, 3, 0] (lv' := [(0, (13, a0)), (1, (0, a1)), (3, (0, l3)), (4, (0, w32 (l4 + 1)))]) rfl ?_
      obtain rfl := Option.some.inj hr
      exact k1 _ _ hk
    · have hr := ifp hr hc
      refine r_iload_n dX3_numberOf_27 rfl 2 rfl (Or.inl rfl) ?_
      refine r_if_ne dX3_numberOf_28 (tgt := 41) (by decide) (fun hc => ?_) (fun hc => ?_)
      · have hr := ifn hr hc
        refine r_iinc (k := 2) (v := l3) dX3_numberOf_41 rfl (by decide) (lv' := [(3, (0, w32 (l3 + (-1)))), (0, (13, a0)), (1, (0, a1)), (4, (0, l4))]) rfl ?_
        refine r_iinc (k := 3) (v := l4) dX3_numberOf_44 rfl (by decide) (lv' := [(4, (0, w32 (l4 + 1))), (3, (0, w32 (l3 + (-1)))), (0, (13, a0)), (1, (0, a1))]) rfl ?_
        refine r_goto dX3_numberOf_47 (tgt := 5) (by decide) ?_
        refine r_sub [2, 3, 1, 0] (lv' := [(0, (13, a0)), (1, (0, a1)), (3, (0, w32 (l3 + (-1)))), (4, (0, w32 (l4 + 1)))]) rfl ?_
        obtain rfl := Option.some.inj hr
        exact k1 _ _ hk
      · have hr := ifp hr hc
        refine r_aload_n dX3_numberOf_31 rfl 0 rfl (nl rfl) ?_
        refine r_get 3 2 (o := a0) (w := (50, h a0 2)) (T := TX3) (ref := "FollowingRefs$Rows") rfl (by decide) rfl (by decide) inlX3 (wsl_4 _ (List.mem_of_getElem? (i := 11) rfl)) rfl dX3_numberOf_32 rfl ?_
        refine r_iload dX3_numberOf_35 3 rfl (Or.inl rfl) ?_
        obtain ⟨r37, hg37, hr⟩ := bnd hr
        refine k_SN (host := "FollowingRefs") (as := [(50, h a0 2), (0, l4)]) (rest := []) (X := (some (0, r37), h)) (oX11_at hg37) gX11_at rfl (List.mem_of_getElem? (i := 20) rfl) rfl dX3_numberOf_37 rfl ?_
        obtain rfl := Option.some.inj hr
        exact r_ret dX3_numberOf_40 rfl (Or.inl ⟨rfl, rfl⟩) (k0 _ hk) ⟨rfl, rfl⟩
set_option maxRecDepth 100000 in
set_option maxHeartbeats 4000000 in
theorem oX3_numberOf_b0 {a0 a1 a2 : Int} {K : Int → Prop} (k0 : ∀ r, K (r) → x = (some (0, r), h)) {r : Int} (hr : fX3_numberOf h a0 a1 a2 = some r) (hk : K r) : Wq p l e R s m args below meth c D G A H0 true n0 M_X3_numberOf x 0 0 0 [(0, (13, a0)), (1, (0, a1)), (2, (0, a2))] [] h := by
  unfold fX3_numberOf at hr
  refine r_iload_n dX3_numberOf_0 rfl 2 rfl (Or.inl rfl) ?_
  refine r_istore_n dX3_numberOf_1 rfl (Or.inl rfl) (by decide) (lv' := [(3, (0, a2)), (0, (13, a0)), (1, (0, a1)), (2, (0, a2))]) rfl ?_
  refine r_iconst dX3_numberOf_2 (by decide) ?_
  refine r_istore dX3_numberOf_3 (Or.inl rfl) (by decide) (lv' := [(4, (0, 0)), (3, (0, a2)), (0, (13, a0)), (1, (0, a1)), (2, (0, a2))]) rfl ?_
  refine r_sub [2, 3, 1, 0] (lv' := [(0, (13, a0)), (1, (0, a1)), (3, (0, a2)), (4, (0, 0))]) rfl ?_
  exact lp_ok (w := fun (q : Int × Int) => Wq p l e R s m args below meth c D G A H0 true n0 M_X3_numberOf x 0 0 5 [(0, (13, a0)), (1, (0, a1)), (3, (0, q.1)), (4, (0, q.2))] [] (h)) (K := K) (fun ⟨q0, q1⟩ r h1 h2 => oX3_numberOf_s5 (K := Sum.elim (fun (q : Int × Int) => Wq p l e R s m args below meth c D G A H0 true n0 M_X3_numberOf x 0 0 5 [(0, (13, a0)), (1, (0, a1)), (3, (0, q.1)), (4, (0, q.2))] [] (h)) (K)) (fun r z => k0 r z) (fun _ _ z => z) h1 h2) hr hk
end M_X3_numberOf
theorem oX3_numberOf {l : Launch} {D : va_G} {G : gG} {h : hH} {a0 a1 a2 : Int} {r : Int} (hr : fX3_numberOf h a0 a1 a2 = some r) : Ctr l D G true yX3_numberOf M_X3_numberOf [(13, a0), (0, a1), (0, a2)] h (some (0, r), h) :=
  Ctr_of (by decide) rfl (fun z => by cases z) (nl rfl) (fun {p e R s m args below meth c A H0} => by
    exact oX3_numberOf_b0 (K := fun z9 => z9 = r) (fun r9 z => by rw [z]) hr rfl)
/-! X3_countIn -/
theorem dX3_countIn_0 : decode cX3_countIn 0 = .ok (.iconst 0, 1) := by decide +kernel
theorem dX3_countIn_1 : decode cX3_countIn 1 = .ok (.istore_n 3, 1) := by decide +kernel
theorem dX3_countIn_2 : decode cX3_countIn 2 = .ok (.iconst 0, 1) := by decide +kernel
theorem dX3_countIn_3 : decode cX3_countIn 3 = .ok (.istore 4, 2) := by decide +kernel
theorem dX3_countIn_5 : decode cX3_countIn 5 = .ok (.iload 4, 2) := by decide +kernel
theorem dX3_countIn_7 : decode cX3_countIn 7 = .ok (.aload_n 0, 1) := by decide +kernel
theorem dX3_countIn_8 : decode cX3_countIn 8 = .ok (.getfield 21, 3) := by decide +kernel
theorem dX3_countIn_11 : decode cX3_countIn 11 = .ok (.if_icmp .ge 36, 3) := by decide +kernel
theorem dX3_countIn_14 : decode cX3_countIn 14 = .ok (.aload_n 0, 1) := by decide +kernel
theorem dX3_countIn_15 : decode cX3_countIn 15 = .ok (.getfield 15, 3) := by decide +kernel
theorem dX3_countIn_18 : decode cX3_countIn 18 = .ok (.iload 4, 2) := by decide +kernel
theorem dX3_countIn_20 : decode cX3_countIn 20 = .ok (.invokestatic 46, 3) := by decide +kernel
theorem dX3_countIn_23 : decode cX3_countIn 23 = .ok (.iload_n 1, 1) := by decide +kernel
theorem dX3_countIn_24 : decode cX3_countIn 24 = .ok (.if_icmp .ne 17, 3) := by decide +kernel
theorem dX3_countIn_27 : decode cX3_countIn 27 = .ok (.aload_n 0, 1) := by decide +kernel
theorem dX3_countIn_28 : decode cX3_countIn 28 = .ok (.iload 4, 2) := by decide +kernel
theorem dX3_countIn_30 : decode cX3_countIn 30 = .ok (.iload_n 2, 1) := by decide +kernel
theorem dX3_countIn_31 : decode cX3_countIn 31 = .ok (.invokevirtual 50, 3) := by decide +kernel
theorem dX3_countIn_34 : decode cX3_countIn 34 = .ok (.iconst (-1), 1) := by decide +kernel
theorem dX3_countIn_35 : decode cX3_countIn 35 = .ok (.if_icmp .eq 6, 3) := by decide +kernel
theorem dX3_countIn_38 : decode cX3_countIn 38 = .ok (.iinc 3 1, 3) := by decide +kernel
theorem dX3_countIn_41 : decode cX3_countIn 41 = .ok (.iinc 4 1, 3) := by decide +kernel
theorem dX3_countIn_44 : decode cX3_countIn 44 = .ok (.goto (-39), 3) := by decide +kernel
theorem dX3_countIn_47 : decode cX3_countIn 47 = .ok (.iload_n 3, 1) := by decide +kernel
theorem dX3_countIn_48 : decode cX3_countIn 48 = .ok (.ireturn, 1) := by decide +kernel
abbrev M_X3_countIn : mM := (cX3_countIn, 5, RX3, some .int, false, 1, 23, 0, 0)
theorem gX3_countIn : cI yX3_countIn M_X3_countIn 2 := ⟨(wsl_61 _ (List.mem_of_getElem? (i := 0) rfl)), (wsl_61 _ (List.mem_of_getElem? (i := 1) rfl)), (wsl_4 _ (List.mem_of_getElem? (i := 5) rfl)), (wsl_61 _ (List.mem_of_getElem? (i := 2) rfl)), by decide +kernel⟩
noncomputable def fX3_countIn_s5 (h : hH) (a0 a1 a2 : Int) : Int × Int → Option ((Int × Int) ⊕ (Int)) := fun (l3, l4) =>
  if l4 < h a0 0 then
    (fX11_at h (h a0 3) l4).bind fun r20 =>
    if r20 = a1 then
      (fX3_value h a0 l4 a2).bind fun r31 =>
      if r31 = -1 then
        some (.inl (l3, w32 (l4 + 1)))
      else
        some (.inl (w32 (l3 + 1), w32 (l4 + 1)))
    else
      some (.inl (l3, w32 (l4 + 1)))
  else
    some (.inr (l3))
noncomputable def fX3_countIn (h : hH) (a0 a1 a2 : Int) : Option (Int) :=
  lpO (fX3_countIn_s5 h a0 a1 a2) (0, 0)
section M_X3_countIn
variable {p : Program} {l : Launch} {e : Env} {R : Room} {s : State} {m : MethodId} {args : Array Value} {below : List Frame} {meth : Method} {c : Code} {D : va_G} {G : gG} {A : Nat → Prop} {H0 : Heap} {n0 : Int} {x : Option vV × hH} {h : hH}
set_option maxRecDepth 100000 in
set_option maxHeartbeats 4000000 in
theorem oX3_countIn_s5 {a0 a1 a2 l3 l4 : Int} {K : (Int × Int) ⊕ (Int) → Prop} (k0 : ∀ r, K (.inr (r)) → x = (some (0, r), h)) (k1 : ∀ (l3 : Int) (l4 : Int), K (.inl (l3, l4)) → Wq p l e R s m args below meth c D G A H0 true n0 M_X3_countIn x 0 0 5 [(0, (13, a0)), (1, (0, a1)), (2, (0, a2)), (3, (0, l3)), (4, (0, l4))] [] h) {r : (Int × Int) ⊕ (Int)} (hr : fX3_countIn_s5 h a0 a1 a2 (l3, l4) = some r) (hk : K r) : Wq p l e R s m args below meth c D G A H0 true n0 M_X3_countIn x 0 0 5 [(0, (13, a0)), (1, (0, a1)), (2, (0, a2)), (3, (0, l3)), (4, (0, l4))] [] h := by
  unfold fX3_countIn_s5 at hr
  refine r_iload dX3_countIn_5 4 rfl (Or.inl rfl) ?_
  refine r_aload_n dX3_countIn_7 rfl 0 rfl (nl rfl) ?_
  refine r_get 3 0 (o := a0) (w := (0, h a0 0)) (T := TX3) (ref := "FollowingRefs$Rows") rfl (by decide) rfl (by decide) inlX3 (wsl_22 _ (List.mem_of_getElem? (i := 23) rfl)) rfl dX3_countIn_8 rfl ?_
  refine r_icmp_ge dX3_countIn_11 (tgt := 47) (by decide) (fun hc => ?_) (fun hc => ?_)
  · have hr := ifn hr hc
    refine r_iload_n dX3_countIn_47 rfl 3 rfl (Or.inl rfl) ?_
    obtain rfl := Option.some.inj hr
    exact r_ret dX3_countIn_48 rfl (Or.inl ⟨rfl, rfl⟩) (k0 _ hk) ⟨rfl, rfl⟩
  · have hr := ifp hr hc
    refine r_aload_n dX3_countIn_14 rfl 0 rfl (nl rfl) ?_
    refine r_get 3 3 (o := a0) (w := (50, h a0 3)) (T := TX3) (ref := "FollowingRefs$Rows") rfl (by decide) rfl (by decide) inlX3 (wsl_4 _ (List.mem_of_getElem? (i := 12) rfl)) rfl dX3_countIn_15 rfl ?_
    refine r_iload dX3_countIn_18 4 rfl (Or.inl rfl) ?_
    obtain ⟨r20, hg20, hr⟩ := bnd hr
    refine k_SN (host := "FollowingRefs") (as := [(50, h a0 3), (0, l4)]) (rest := []) (X := (some (0, r20), h)) (oX11_at hg20) gX11_at rfl (List.mem_of_getElem? (i := 20) rfl) rfl dX3_countIn_20 rfl ?_
    refine r_iload_n dX3_countIn_23 rfl 1 rfl (Or.inl rfl) ?_
    refine r_icmp_ne dX3_countIn_24 (tgt := 41) (by decide) (fun hc => ?_) (fun hc => ?_)
    · have hr := ifn hr hc
      refine r_iinc (k := 4) (v := l4) dX3_countIn_41 rfl (by decide) (lv' := [(4, (0, w32 (l4 + 1))), (0, (13, a0)), (1, (0, a1)), (2, (0, a2)), (3, (0, l3))]) rfl ?_
      refine r_goto dX3_countIn_44 (tgt := 5) (by decide) ?_
      refine r_sub [1, 2, 3, 4, 0] (lv' := [(0, (13, a0)), (1, (0, a1)), (2, (0, a2)), (3, (0, l3)), (4, (0, w32 (l4 + 1)))]) rfl ?_
      obtain rfl := Option.some.inj hr
      exact k1 _ _ hk
    · have hr := ifp hr hc
      refine r_aload_n dX3_countIn_27 rfl 0 rfl (nl rfl) ?_
      refine r_iload dX3_countIn_28 4 rfl (Or.inl rfl) ?_
      refine r_iload_n dX3_countIn_30 rfl 2 rfl (Or.inl rfl) ?_
      obtain ⟨r31, hg31, hr⟩ := bnd hr
      refine k_V (ci := 3) (o := a0) (T := TX3) (as := [(0, l4), (0, a2)]) (rest := []) (X := (some (0, r31), h)) (oX3_value hg31) gX3_value rfl (by decide) rfl (wsl_34 _ (List.mem_of_getElem? (i := 10) rfl)) rfl dX3_countIn_31 rfl ?_
      refine r_iconst dX3_countIn_34 (by decide) ?_
      refine r_icmp_eq dX3_countIn_35 (tgt := 41) (by decide) (fun hc => ?_) (fun hc => ?_)
      · have hr := ifp hr hc
        refine r_iinc (k := 4) (v := l4) dX3_countIn_41 rfl (by decide) (lv' := [(4, (0, w32 (l4 + 1))), (0, (13, a0)), (1, (0, a1)), (2, (0, a2)), (3, (0, l3))]) rfl ?_
        refine r_goto dX3_countIn_44 (tgt := 5) (by decide) ?_
        refine r_sub [1, 2, 3, 4, 0] (lv' := [(0, (13, a0)), (1, (0, a1)), (2, (0, a2)), (3, (0, l3)), (4, (0, w32 (l4 + 1)))]) rfl ?_
        obtain rfl := Option.some.inj hr
        exact k1 _ _ hk
      · have hr := ifn hr hc
        refine r_iinc (k := 3) (v := l3) dX3_countIn_38 rfl (by decide) (lv' := [(3, (0, w32 (l3 + 1))), (0, (13, a0)), (1, (0, a1)), (2, (0, a2)), (4, (0, l4))]) rfl ?_
        refine r_iinc (k := 4) (v := l4) dX3_countIn_41 rfl (by decide) (lv' := [(4, (0, w32 (l4 + 1))), (3, (0, w32 (l3 + 1))), (0, (13, a0)), (1, (0, a1)), (2, (0, a2))]) rfl ?_
        refine r_goto dX3_countIn_44 (tgt := 5) (by decide) ?_
        refine r_sub [2, 3, 4, 1, 0] (lv' := [(0, (13, a0)), (1, (0, a1)), (2, (0, a2)), (3, (0, w32 (l3 + 1))), (4, (0, w32 (l4 + 1)))]) rfl ?_
        obtain rfl := Option.some.inj hr
        exact k1 _ _ hk
set_option maxRecDepth 100000 in
set_option maxHeartbeats 4000000 in
theorem oX3_countIn_b0 {a0 a1 a2 : Int} {K : Int → Prop} (k0 : ∀ r, K (r) → x = (some (0, r), h)) {r : Int} (hr : fX3_countIn h a0 a1 a2 = some r) (hk : K r) : Wq p l e R s m args below meth c D G A H0 true n0 M_X3_countIn x 0 0 0 [(0, (13, a0)), (1, (0, a1)), (2, (0, a2))] [] h := by
  unfold fX3_countIn at hr
  refine r_iconst dX3_countIn_0 (by decide) ?_
  refine r_istore_n dX3_countIn_1 rfl (Or.inl rfl) (by decide) (lv' := [(3, (0, 0)), (0, (13, a0)), (1, (0, a1)), (2, (0, a2))]) rfl ?_
  refine r_iconst dX3_countIn_2 (by decide) ?_
  refine r_istore dX3_countIn_3 (Or.inl rfl) (by decide) (lv' := [(4, (0, 0)), (3, (0, 0)), (0, (13, a0)), (1, (0, a1)), (2, (0, a2))]) rfl ?_
  refine r_sub [2, 3, 4, 1, 0] (lv' := [(0, (13, a0)), (1, (0, a1)), (2, (0, a2)), (3, (0, 0)), (4, (0, 0))]) rfl ?_
  exact lp_ok (w := fun (q : Int × Int) => Wq p l e R s m args below meth c D G A H0 true n0 M_X3_countIn x 0 0 5 [(0, (13, a0)), (1, (0, a1)), (2, (0, a2)), (3, (0, q.1)), (4, (0, q.2))] [] (h)) (K := K) (fun ⟨q0, q1⟩ r h1 h2 => oX3_countIn_s5 (K := Sum.elim (fun (q : Int × Int) => Wq p l e R s m args below meth c D G A H0 true n0 M_X3_countIn x 0 0 5 [(0, (13, a0)), (1, (0, a1)), (2, (0, a2)), (3, (0, q.1)), (4, (0, q.2))] [] (h)) (K)) (fun r z => k0 r z) (fun _ _ z => z) h1 h2) hr hk
end M_X3_countIn
theorem oX3_countIn {l : Launch} {D : va_G} {G : gG} {h : hH} {a0 a1 a2 : Int} {r : Int} (hr : fX3_countIn h a0 a1 a2 = some r) : Ctr l D G true yX3_countIn M_X3_countIn [(13, a0), (0, a1), (0, a2)] h (some (0, r), h) :=
  Ctr_of (by decide) rfl (fun z => by cases z) (nl rfl) (fun {p e R s m args below meth c A H0} => by
    exact oX3_countIn_b0 (K := fun z9 => z9 = r) (fun r9 z => by rw [z]) hr rfl)
/-! X3_sumIn -/
theorem dX3_sumIn_0 : decode cX3_sumIn 0 = .ok (.iconst 0, 1) := by decide +kernel
theorem dX3_sumIn_1 : decode cX3_sumIn 1 = .ok (.istore_n 3, 1) := by decide +kernel
theorem dX3_sumIn_2 : decode cX3_sumIn 2 = .ok (.iconst 0, 1) := by decide +kernel
theorem dX3_sumIn_3 : decode cX3_sumIn 3 = .ok (.istore 4, 2) := by decide +kernel
theorem dX3_sumIn_5 : decode cX3_sumIn 5 = .ok (.iload 4, 2) := by decide +kernel
theorem dX3_sumIn_7 : decode cX3_sumIn 7 = .ok (.aload_n 0, 1) := by decide +kernel
theorem dX3_sumIn_8 : decode cX3_sumIn 8 = .ok (.getfield 21, 3) := by decide +kernel
theorem dX3_sumIn_11 : decode cX3_sumIn 11 = .ok (.if_icmp .ge 43, 3) := by decide +kernel
theorem dX3_sumIn_14 : decode cX3_sumIn 14 = .ok (.aload_n 0, 1) := by decide +kernel
theorem dX3_sumIn_15 : decode cX3_sumIn 15 = .ok (.getfield 15, 3) := by decide +kernel
theorem dX3_sumIn_18 : decode cX3_sumIn 18 = .ok (.iload 4, 2) := by decide +kernel
theorem dX3_sumIn_20 : decode cX3_sumIn 20 = .ok (.invokestatic 46, 3) := by decide +kernel
theorem dX3_sumIn_23 : decode cX3_sumIn 23 = .ok (.iload_n 1, 1) := by decide +kernel
theorem dX3_sumIn_24 : decode cX3_sumIn 24 = .ok (.if_icmp .ne 24, 3) := by decide +kernel
theorem dX3_sumIn_27 : decode cX3_sumIn 27 = .ok (.aload_n 0, 1) := by decide +kernel
theorem dX3_sumIn_28 : decode cX3_sumIn 28 = .ok (.iload 4, 2) := by decide +kernel
theorem dX3_sumIn_30 : decode cX3_sumIn 30 = .ok (.iload_n 2, 1) := by decide +kernel
theorem dX3_sumIn_31 : decode cX3_sumIn 31 = .ok (.invokevirtual 50, 3) := by decide +kernel
theorem dX3_sumIn_34 : decode cX3_sumIn 34 = .ok (.iconst (-1), 1) := by decide +kernel
theorem dX3_sumIn_35 : decode cX3_sumIn 35 = .ok (.if_icmp .eq 13, 3) := by decide +kernel
theorem dX3_sumIn_38 : decode cX3_sumIn 38 = .ok (.iload_n 3, 1) := by decide +kernel
theorem dX3_sumIn_39 : decode cX3_sumIn 39 = .ok (.aload_n 0, 1) := by decide +kernel
theorem dX3_sumIn_40 : decode cX3_sumIn 40 = .ok (.iload 4, 2) := by decide +kernel
theorem dX3_sumIn_42 : decode cX3_sumIn 42 = .ok (.iload_n 2, 1) := by decide +kernel
theorem dX3_sumIn_43 : decode cX3_sumIn 43 = .ok (.invokevirtual 50, 3) := by decide +kernel
theorem dX3_sumIn_46 : decode cX3_sumIn 46 = .ok (.iadd, 1) := by decide +kernel
theorem dX3_sumIn_47 : decode cX3_sumIn 47 = .ok (.istore_n 3, 1) := by decide +kernel
theorem dX3_sumIn_48 : decode cX3_sumIn 48 = .ok (.iinc 4 1, 3) := by decide +kernel
theorem dX3_sumIn_51 : decode cX3_sumIn 51 = .ok (.goto (-46), 3) := by decide +kernel
theorem dX3_sumIn_54 : decode cX3_sumIn 54 = .ok (.iload_n 3, 1) := by decide +kernel
theorem dX3_sumIn_55 : decode cX3_sumIn 55 = .ok (.ireturn, 1) := by decide +kernel
abbrev M_X3_sumIn : mM := (cX3_sumIn, 5, RX3, some .int, false, 1, 23, 0, 0)
theorem gX3_sumIn : cI yX3_sumIn M_X3_sumIn 2 := ⟨(wsl_61 _ (List.mem_of_getElem? (i := 4) rfl)), (wsl_61 _ (List.mem_of_getElem? (i := 5) rfl)), (wsl_4 _ (List.mem_of_getElem? (i := 5) rfl)), (wsl_61 _ (List.mem_of_getElem? (i := 6) rfl)), by decide +kernel⟩
noncomputable def fX3_sumIn_s5 (h : hH) (a0 a1 a2 : Int) : Int × Int → Option ((Int × Int) ⊕ (Int)) := fun (l3, l4) =>
  if l4 < h a0 0 then
    (fX11_at h (h a0 3) l4).bind fun r20 =>
    if r20 = a1 then
      (fX3_value h a0 l4 a2).bind fun r31 =>
      if r31 = -1 then
        some (.inl (l3, w32 (l4 + 1)))
      else
        (fX3_value h a0 l4 a2).bind fun r43 =>
        some (.inl (w32 (l3 + r43), w32 (l4 + 1)))
    else
      some (.inl (l3, w32 (l4 + 1)))
  else
    some (.inr (l3))
noncomputable def fX3_sumIn (h : hH) (a0 a1 a2 : Int) : Option (Int) :=
  lpO (fX3_sumIn_s5 h a0 a1 a2) (0, 0)
section M_X3_sumIn
variable {p : Program} {l : Launch} {e : Env} {R : Room} {s : State} {m : MethodId} {args : Array Value} {below : List Frame} {meth : Method} {c : Code} {D : va_G} {G : gG} {A : Nat → Prop} {H0 : Heap} {n0 : Int} {x : Option vV × hH} {h : hH}
set_option maxRecDepth 100000 in
set_option maxHeartbeats 4000000 in
theorem oX3_sumIn_s5 {a0 a1 a2 l3 l4 : Int} {K : (Int × Int) ⊕ (Int) → Prop} (k0 : ∀ r, K (.inr (r)) → x = (some (0, r), h)) (k1 : ∀ (l3 : Int) (l4 : Int), K (.inl (l3, l4)) → Wq p l e R s m args below meth c D G A H0 true n0 M_X3_sumIn x 0 0 5 [(0, (13, a0)), (1, (0, a1)), (2, (0, a2)), (3, (0, l3)), (4, (0, l4))] [] h) {r : (Int × Int) ⊕ (Int)} (hr : fX3_sumIn_s5 h a0 a1 a2 (l3, l4) = some r) (hk : K r) : Wq p l e R s m args below meth c D G A H0 true n0 M_X3_sumIn x 0 0 5 [(0, (13, a0)), (1, (0, a1)), (2, (0, a2)), (3, (0, l3)), (4, (0, l4))] [] h := by
  unfold fX3_sumIn_s5 at hr
  refine r_iload dX3_sumIn_5 4 rfl (Or.inl rfl) ?_
  refine r_aload_n dX3_sumIn_7 rfl 0 rfl (nl rfl) ?_
  refine r_get 3 0 (o := a0) (w := (0, h a0 0)) (T := TX3) (ref := "FollowingRefs$Rows") rfl (by decide) rfl (by decide) inlX3 (wsl_22 _ (List.mem_of_getElem? (i := 23) rfl)) rfl dX3_sumIn_8 rfl ?_
  refine r_icmp_ge dX3_sumIn_11 (tgt := 54) (by decide) (fun hc => ?_) (fun hc => ?_)
  · have hr := ifn hr hc
    refine r_iload_n dX3_sumIn_54 rfl 3 rfl (Or.inl rfl) ?_
    obtain rfl := Option.some.inj hr
    exact r_ret dX3_sumIn_55 rfl (Or.inl ⟨rfl, rfl⟩) (k0 _ hk) ⟨rfl, rfl⟩
  · have hr := ifp hr hc
    refine r_aload_n dX3_sumIn_14 rfl 0 rfl (nl rfl) ?_
    refine r_get 3 3 (o := a0) (w := (50, h a0 3)) (T := TX3) (ref := "FollowingRefs$Rows") rfl (by decide) rfl (by decide) inlX3 (wsl_4 _ (List.mem_of_getElem? (i := 12) rfl)) rfl dX3_sumIn_15 rfl ?_
    refine r_iload dX3_sumIn_18 4 rfl (Or.inl rfl) ?_
    obtain ⟨r20, hg20, hr⟩ := bnd hr
    refine k_SN (host := "FollowingRefs") (as := [(50, h a0 3), (0, l4)]) (rest := []) (X := (some (0, r20), h)) (oX11_at hg20) gX11_at rfl (List.mem_of_getElem? (i := 20) rfl) rfl dX3_sumIn_20 rfl ?_
    refine r_iload_n dX3_sumIn_23 rfl 1 rfl (Or.inl rfl) ?_
    refine r_icmp_ne dX3_sumIn_24 (tgt := 48) (by decide) (fun hc => ?_) (fun hc => ?_)
    · have hr := ifn hr hc
      refine r_iinc (k := 4) (v := l4) dX3_sumIn_48 rfl (by decide) (lv' := [(4, (0, w32 (l4 + 1))), (0, (13, a0)), (1, (0, a1)), (2, (0, a2)), (3, (0, l3))]) rfl ?_
      refine r_goto dX3_sumIn_51 (tgt := 5) (by decide) ?_
      refine r_sub [1, 2, 3, 4, 0] (lv' := [(0, (13, a0)), (1, (0, a1)), (2, (0, a2)), (3, (0, l3)), (4, (0, w32 (l4 + 1)))]) rfl ?_
      obtain rfl := Option.some.inj hr
      exact k1 _ _ hk
    · have hr := ifp hr hc
      refine r_aload_n dX3_sumIn_27 rfl 0 rfl (nl rfl) ?_
      refine r_iload dX3_sumIn_28 4 rfl (Or.inl rfl) ?_
      refine r_iload_n dX3_sumIn_30 rfl 2 rfl (Or.inl rfl) ?_
      obtain ⟨r31, hg31, hr⟩ := bnd hr
      refine k_V (ci := 3) (o := a0) (T := TX3) (as := [(0, l4), (0, a2)]) (rest := []) (X := (some (0, r31), h)) (oX3_value hg31) gX3_value rfl (by decide) rfl (wsl_34 _ (List.mem_of_getElem? (i := 10) rfl)) rfl dX3_sumIn_31 rfl ?_
      refine r_iconst dX3_sumIn_34 (by decide) ?_
      refine r_icmp_eq dX3_sumIn_35 (tgt := 48) (by decide) (fun hc => ?_) (fun hc => ?_)
      · have hr := ifp hr hc
        refine r_iinc (k := 4) (v := l4) dX3_sumIn_48 rfl (by decide) (lv' := [(4, (0, w32 (l4 + 1))), (0, (13, a0)), (1, (0, a1)), (2, (0, a2)), (3, (0, l3))]) rfl ?_
        refine r_goto dX3_sumIn_51 (tgt := 5) (by decide) ?_
        refine r_sub [1, 2, 3, 4, 0] (lv' := [(0, (13, a0)), (1, (0, a1)), (2, (0, a2)), (3, (0, l3)), (4, (0, w32 (l4 + 1)))]) rfl ?_
        obtain rfl := Option.some.inj hr
        exact k1 _ _ hk
      · have hr := ifn hr hc
        refine r_iload_n dX3_sumIn_38 rfl 3 rfl (Or.inl rfl) ?_
        refine r_aload_n dX3_sumIn_39 rfl 0 rfl (nl rfl) ?_
        refine r_iload dX3_sumIn_40 4 rfl (Or.inl rfl) ?_
        refine r_iload_n dX3_sumIn_42 rfl 2 rfl (Or.inl rfl) ?_
        obtain ⟨r43, hg43, hr⟩ := bnd hr
        refine k_V (ci := 3) (o := a0) (T := TX3) (as := [(0, l4), (0, a2)]) (rest := [(0, l3)]) (X := (some (0, r43), h)) (oX3_value hg43) gX3_value rfl (by decide) rfl (wsl_34 _ (List.mem_of_getElem? (i := 10) rfl)) rfl dX3_sumIn_43 rfl ?_
        refine r_iadd dX3_sumIn_46 ?_
        refine r_istore_n dX3_sumIn_47 rfl (Or.inl rfl) (by decide) (lv' := [(3, (0, w32 (l3 + r43))), (0, (13, a0)), (1, (0, a1)), (2, (0, a2)), (4, (0, l4))]) rfl ?_
        refine r_iinc (k := 4) (v := l4) dX3_sumIn_48 rfl (by decide) (lv' := [(4, (0, w32 (l4 + 1))), (3, (0, w32 (l3 + r43))), (0, (13, a0)), (1, (0, a1)), (2, (0, a2))]) rfl ?_
        refine r_goto dX3_sumIn_51 (tgt := 5) (by decide) ?_
        refine r_sub [2, 3, 4, 1, 0] (lv' := [(0, (13, a0)), (1, (0, a1)), (2, (0, a2)), (3, (0, w32 (l3 + r43))), (4, (0, w32 (l4 + 1)))]) rfl ?_
        obtain rfl := Option.some.inj hr
        exact k1 _ _ hk
set_option maxRecDepth 100000 in
set_option maxHeartbeats 4000000 in
theorem oX3_sumIn_b0 {a0 a1 a2 : Int} {K : Int → Prop} (k0 : ∀ r, K (r) → x = (some (0, r), h)) {r : Int} (hr : fX3_sumIn h a0 a1 a2 = some r) (hk : K r) : Wq p l e R s m args below meth c D G A H0 true n0 M_X3_sumIn x 0 0 0 [(0, (13, a0)), (1, (0, a1)), (2, (0, a2))] [] h := by
  unfold fX3_sumIn at hr
  refine r_iconst dX3_sumIn_0 (by decide) ?_
  refine r_istore_n dX3_sumIn_1 rfl (Or.inl rfl) (by decide) (lv' := [(3, (0, 0)), (0, (13, a0)), (1, (0, a1)), (2, (0, a2))]) rfl ?_
  refine r_iconst dX3_sumIn_2 (by decide) ?_
  refine r_istore dX3_sumIn_3 (Or.inl rfl) (by decide) (lv' := [(4, (0, 0)), (3, (0, 0)), (0, (13, a0)), (1, (0, a1)), (2, (0, a2))]) rfl ?_
  refine r_sub [2, 3, 4, 1, 0] (lv' := [(0, (13, a0)), (1, (0, a1)), (2, (0, a2)), (3, (0, 0)), (4, (0, 0))]) rfl ?_
  exact lp_ok (w := fun (q : Int × Int) => Wq p l e R s m args below meth c D G A H0 true n0 M_X3_sumIn x 0 0 5 [(0, (13, a0)), (1, (0, a1)), (2, (0, a2)), (3, (0, q.1)), (4, (0, q.2))] [] (h)) (K := K) (fun ⟨q0, q1⟩ r h1 h2 => oX3_sumIn_s5 (K := Sum.elim (fun (q : Int × Int) => Wq p l e R s m args below meth c D G A H0 true n0 M_X3_sumIn x 0 0 5 [(0, (13, a0)), (1, (0, a1)), (2, (0, a2)), (3, (0, q.1)), (4, (0, q.2))] [] (h)) (K)) (fun r z => k0 r z) (fun _ _ z => z) h1 h2) hr hk
end M_X3_sumIn
theorem oX3_sumIn {l : Launch} {D : va_G} {G : gG} {h : hH} {a0 a1 a2 : Int} {r : Int} (hr : fX3_sumIn h a0 a1 a2 = some r) : Ctr l D G true yX3_sumIn M_X3_sumIn [(13, a0), (0, a1), (0, a2)] h (some (0, r), h) :=
  Ctr_of (by decide) rfl (fun z => by cases z) (nl rfl) (fun {p e R s m args below meth c A H0} => by
    exact oX3_sumIn_b0 (K := fun z9 => z9 = r) (fun r9 z => by rw [z]) hr rfl)
/-! X3_referring -/
theorem dX3_referring_0 : decode cX3_referring 0 = .ok (.iconst 0, 1) := by decide +kernel
theorem dX3_referring_1 : decode cX3_referring 1 = .ok (.istore_n 3, 1) := by decide +kernel
theorem dX3_referring_2 : decode cX3_referring 2 = .ok (.iconst 0, 1) := by decide +kernel
theorem dX3_referring_3 : decode cX3_referring 3 = .ok (.istore 4, 2) := by decide +kernel
theorem dX3_referring_5 : decode cX3_referring 5 = .ok (.iload 4, 2) := by decide +kernel
theorem dX3_referring_7 : decode cX3_referring 7 = .ok (.aload_n 0, 1) := by decide +kernel
theorem dX3_referring_8 : decode cX3_referring 8 = .ok (.getfield 21, 3) := by decide +kernel
theorem dX3_referring_11 : decode cX3_referring 11 = .ok (.if_icmp .ge 43, 3) := by decide +kernel
theorem dX3_referring_14 : decode cX3_referring 14 = .ok (.iconst 0, 1) := by decide +kernel
theorem dX3_referring_15 : decode cX3_referring 15 = .ok (.istore 5, 2) := by decide +kernel
theorem dX3_referring_17 : decode cX3_referring 17 = .ok (.iload 5, 2) := by decide +kernel
theorem dX3_referring_19 : decode cX3_referring 19 = .ok (.aload_n 1, 1) := by decide +kernel
theorem dX3_referring_20 : decode cX3_referring 20 = .ok (.getfield 65, 3) := by decide +kernel
theorem dX3_referring_23 : decode cX3_referring 23 = .ok (.if_icmp .ge 25, 3) := by decide +kernel
theorem dX3_referring_26 : decode cX3_referring 26 = .ok (.aload_n 0, 1) := by decide +kernel
theorem dX3_referring_27 : decode cX3_referring 27 = .ok (.aload_n 1, 1) := by decide +kernel
theorem dX3_referring_28 : decode cX3_referring 28 = .ok (.iload 4, 2) := by decide +kernel
theorem dX3_referring_30 : decode cX3_referring 30 = .ok (.iload 5, 2) := by decide +kernel
theorem dX3_referring_32 : decode cX3_referring 32 = .ok (.invokevirtual 68, 3) := by decide +kernel
theorem dX3_referring_35 : decode cX3_referring 35 = .ok (.iload_n 2, 1) := by decide +kernel
theorem dX3_referring_36 : decode cX3_referring 36 = .ok (.if_icmp .ne 6, 3) := by decide +kernel
theorem dX3_referring_39 : decode cX3_referring 39 = .ok (.iinc 3 1, 3) := by decide +kernel
theorem dX3_referring_42 : decode cX3_referring 42 = .ok (.iinc 5 1, 3) := by decide +kernel
theorem dX3_referring_45 : decode cX3_referring 45 = .ok (.goto (-28), 3) := by decide +kernel
theorem dX3_referring_48 : decode cX3_referring 48 = .ok (.iinc 4 1, 3) := by decide +kernel
theorem dX3_referring_51 : decode cX3_referring 51 = .ok (.goto (-46), 3) := by decide +kernel
theorem dX3_referring_54 : decode cX3_referring 54 = .ok (.iload_n 3, 1) := by decide +kernel
theorem dX3_referring_55 : decode cX3_referring 55 = .ok (.ireturn, 1) := by decide +kernel
abbrev M_X3_referring : mM := (cX3_referring, 6, RX3, some .int, false, 3, 74, 0, 0)
theorem gX3_referring : cI yX3_referring M_X3_referring 2 := ⟨(wsl_56 _ (List.mem_of_getElem? (i := 13) rfl)), (wsl_56 _ (List.mem_of_getElem? (i := 14) rfl)), (wsl_4 _ (List.mem_of_getElem? (i := 5) rfl)), (wsl_56 _ (List.mem_of_getElem? (i := 15) rfl)), by decide +kernel⟩
noncomputable def fX3_referring_s17 (h : hH) (a0 a1 a2 l4 : Int) : Int × Int → Option ((Int × Int) ⊕ ((Int × Int) ⊕ (Int))) := fun (l3, l5) =>
  if l5 < h a1 2 then
    (fX3_aim h a0 a1 l4 l5).bind fun r32 =>
    if r32 = a2 then
      some (.inl (w32 (l3 + 1), w32 (l5 + 1)))
    else
      some (.inl (l3, w32 (l5 + 1)))
  else
    some (.inr (.inl (l3, w32 (l4 + 1))))
noncomputable def fX3_referring_s5 (h : hH) (a0 a1 a2 : Int) : Int × Int → Option ((Int × Int) ⊕ (Int)) := fun (l3, l4) =>
  if l4 < h a0 0 then
    lpO (fX3_referring_s17 h a0 a1 a2 l4) (l3, 0)
  else
    some (.inr (l3))
noncomputable def fX3_referring (h : hH) (a0 a1 a2 : Int) : Option (Int) :=
  lpO (fX3_referring_s5 h a0 a1 a2) (0, 0)
section M_X3_referring
variable {p : Program} {l : Launch} {e : Env} {R : Room} {s : State} {m : MethodId} {args : Array Value} {below : List Frame} {meth : Method} {c : Code} {D : va_G} {G : gG} {A : Nat → Prop} {H0 : Heap} {n0 : Int} {x : Option vV × hH} {h : hH}
set_option maxRecDepth 100000 in
set_option maxHeartbeats 4000000 in
theorem oX3_referring_s17 {a0 a1 a2 l4 l3 l5 : Int} {K : (Int × Int) ⊕ ((Int × Int) ⊕ (Int)) → Prop} (k0 : ∀ r, K (.inr (.inr (r))) → x = (some (0, r), h)) (k1 : ∀ (l3 : Int) (l4 : Int), K (.inr (.inl (l3, l4))) → Wq p l e R s m args below meth c D G A H0 true n0 M_X3_referring x 0 0 5 [(0, (13, a0)), (1, (14, a1)), (2, (0, a2)), (3, (0, l3)), (4, (0, l4))] [] h) (k2 : ∀ (l3 : Int) (l5 : Int), K (.inl (l3, l5)) → Wq p l e R s m args below meth c D G A H0 true n0 M_X3_referring x 0 0 17 [(0, (13, a0)), (1, (14, a1)), (2, (0, a2)), (3, (0, l3)), (4, (0, l4)), (5, (0, l5))] [] h) {r : (Int × Int) ⊕ ((Int × Int) ⊕ (Int))} (hr : fX3_referring_s17 h a0 a1 a2 l4 (l3, l5) = some r) (hk : K r) : Wq p l e R s m args below meth c D G A H0 true n0 M_X3_referring x 0 0 17 [(0, (13, a0)), (1, (14, a1)), (2, (0, a2)), (3, (0, l3)), (4, (0, l4)), (5, (0, l5))] [] h := by
  unfold fX3_referring_s17 at hr
  refine r_iload dX3_referring_17 5 rfl (Or.inl rfl) ?_
  refine r_aload_n dX3_referring_19 rfl 1 rfl (nl rfl) ?_
  refine r_get 4 2 (o := a1) (w := (0, h a1 2)) (T := TX4) (ref := "FollowingRefs$Schema") rfl (by decide) rfl (by decide) inlX4 (wsl_56 _ (List.mem_of_getElem? (i := 16) rfl)) rfl dX3_referring_20 rfl ?_
  refine r_icmp_ge dX3_referring_23 (tgt := 48) (by decide) (fun hc => ?_) (fun hc => ?_)
  · have hr := ifn hr hc
    refine r_iinc (k := 4) (v := l4) dX3_referring_48 rfl (by decide) (lv' := [(4, (0, w32 (l4 + 1))), (0, (13, a0)), (1, (14, a1)), (2, (0, a2)), (3, (0, l3)), (5, (0, l5))]) rfl ?_
    refine r_goto dX3_referring_51 (tgt := 5) (by decide) ?_
    refine r_sub [1, 2, 3, 4, 0] (lv' := [(0, (13, a0)), (1, (14, a1)), (2, (0, a2)), (3, (0, l3)), (4, (0, w32 (l4 + 1)))]) rfl ?_
    obtain rfl := Option.some.inj hr
    exact k1 _ _ hk
  · have hr := ifp hr hc
    refine r_aload_n dX3_referring_26 rfl 0 rfl (nl rfl) ?_
    refine r_aload_n dX3_referring_27 rfl 1 rfl (nl rfl) ?_
    refine r_iload dX3_referring_28 4 rfl (Or.inl rfl) ?_
    refine r_iload dX3_referring_30 5 rfl (Or.inl rfl) ?_
    obtain ⟨r32, hg32, hr⟩ := bnd hr
    refine k_V (ci := 3) (o := a0) (T := TX3) (as := [(14, a1), (0, l4), (0, l5)]) (rest := []) (X := (some (0, r32), h)) (oX3_aim hg32) gX3_aim rfl (by decide) rfl (wsl_56 _ (List.mem_of_getElem? (i := 17) rfl)) rfl dX3_referring_32 rfl ?_
    refine r_iload_n dX3_referring_35 rfl 2 rfl (Or.inl rfl) ?_
    refine r_icmp_ne dX3_referring_36 (tgt := 42) (by decide) (fun hc => ?_) (fun hc => ?_)
    · have hr := ifn hr hc
      refine r_iinc (k := 5) (v := l5) dX3_referring_42 rfl (by decide) (lv' := [(5, (0, w32 (l5 + 1))), (0, (13, a0)), (1, (14, a1)), (2, (0, a2)), (3, (0, l3)), (4, (0, l4))]) rfl ?_
      refine r_goto dX3_referring_45 (tgt := 17) (by decide) ?_
      refine r_sub [1, 2, 3, 4, 5, 0] (lv' := [(0, (13, a0)), (1, (14, a1)), (2, (0, a2)), (3, (0, l3)), (4, (0, l4)), (5, (0, w32 (l5 + 1)))]) rfl ?_
      obtain rfl := Option.some.inj hr
      exact k2 _ _ hk
    · have hr := ifp hr hc
      refine r_iinc (k := 3) (v := l3) dX3_referring_39 rfl (by decide) (lv' := [(3, (0, w32 (l3 + 1))), (0, (13, a0)), (1, (14, a1)), (2, (0, a2)), (4, (0, l4)), (5, (0, l5))]) rfl ?_
      refine r_iinc (k := 5) (v := l5) dX3_referring_42 rfl (by decide) (lv' := [(5, (0, w32 (l5 + 1))), (3, (0, w32 (l3 + 1))), (0, (13, a0)), (1, (14, a1)), (2, (0, a2)), (4, (0, l4))]) rfl ?_
      refine r_goto dX3_referring_45 (tgt := 17) (by decide) ?_
      refine r_sub [2, 3, 4, 1, 5, 0] (lv' := [(0, (13, a0)), (1, (14, a1)), (2, (0, a2)), (3, (0, w32 (l3 + 1))), (4, (0, l4)), (5, (0, w32 (l5 + 1)))]) rfl ?_
      obtain rfl := Option.some.inj hr
      exact k2 _ _ hk
set_option maxRecDepth 100000 in
set_option maxHeartbeats 4000000 in
theorem oX3_referring_s5 {a0 a1 a2 l3 l4 : Int} {K : (Int × Int) ⊕ (Int) → Prop} (k0 : ∀ r, K (.inr (r)) → x = (some (0, r), h)) (k1 : ∀ (l3 : Int) (l4 : Int), K (.inl (l3, l4)) → Wq p l e R s m args below meth c D G A H0 true n0 M_X3_referring x 0 0 5 [(0, (13, a0)), (1, (14, a1)), (2, (0, a2)), (3, (0, l3)), (4, (0, l4))] [] h) {r : (Int × Int) ⊕ (Int)} (hr : fX3_referring_s5 h a0 a1 a2 (l3, l4) = some r) (hk : K r) : Wq p l e R s m args below meth c D G A H0 true n0 M_X3_referring x 0 0 5 [(0, (13, a0)), (1, (14, a1)), (2, (0, a2)), (3, (0, l3)), (4, (0, l4))] [] h := by
  unfold fX3_referring_s5 at hr
  refine r_iload dX3_referring_5 4 rfl (Or.inl rfl) ?_
  refine r_aload_n dX3_referring_7 rfl 0 rfl (nl rfl) ?_
  refine r_get 3 0 (o := a0) (w := (0, h a0 0)) (T := TX3) (ref := "FollowingRefs$Rows") rfl (by decide) rfl (by decide) inlX3 (wsl_22 _ (List.mem_of_getElem? (i := 23) rfl)) rfl dX3_referring_8 rfl ?_
  refine r_icmp_ge dX3_referring_11 (tgt := 54) (by decide) (fun hc => ?_) (fun hc => ?_)
  · have hr := ifn hr hc
    refine r_iload_n dX3_referring_54 rfl 3 rfl (Or.inl rfl) ?_
    obtain rfl := Option.some.inj hr
    exact r_ret dX3_referring_55 rfl (Or.inl ⟨rfl, rfl⟩) (k0 _ hk) ⟨rfl, rfl⟩
  · have hr := ifp hr hc
    refine r_iconst dX3_referring_14 (by decide) ?_
    refine r_istore dX3_referring_15 (Or.inl rfl) (by decide) (lv' := [(5, (0, 0)), (0, (13, a0)), (1, (14, a1)), (2, (0, a2)), (3, (0, l3)), (4, (0, l4))]) rfl ?_
    refine r_sub [1, 2, 3, 4, 5, 0] (lv' := [(0, (13, a0)), (1, (14, a1)), (2, (0, a2)), (3, (0, l3)), (4, (0, l4)), (5, (0, 0))]) rfl ?_
    exact lp_ok (w := fun (q : Int × Int) => Wq p l e R s m args below meth c D G A H0 true n0 M_X3_referring x 0 0 17 [(0, (13, a0)), (1, (14, a1)), (2, (0, a2)), (3, (0, q.1)), (4, (0, l4)), (5, (0, q.2))] [] (h)) (K := K) (fun ⟨q0, q1⟩ r h1 h2 => oX3_referring_s17 (K := Sum.elim (fun (q : Int × Int) => Wq p l e R s m args below meth c D G A H0 true n0 M_X3_referring x 0 0 17 [(0, (13, a0)), (1, (14, a1)), (2, (0, a2)), (3, (0, q.1)), (4, (0, l4)), (5, (0, q.2))] [] (h)) (K)) (fun r z => k0 r z) (fun _ _ z => k1 _ _ z) (fun _ _ z => z) h1 h2) hr hk
set_option maxRecDepth 100000 in
set_option maxHeartbeats 4000000 in
theorem oX3_referring_b0 {a0 a1 a2 : Int} {K : Int → Prop} (k0 : ∀ r, K (r) → x = (some (0, r), h)) {r : Int} (hr : fX3_referring h a0 a1 a2 = some r) (hk : K r) : Wq p l e R s m args below meth c D G A H0 true n0 M_X3_referring x 0 0 0 [(0, (13, a0)), (1, (14, a1)), (2, (0, a2))] [] h := by
  unfold fX3_referring at hr
  refine r_iconst dX3_referring_0 (by decide) ?_
  refine r_istore_n dX3_referring_1 rfl (Or.inl rfl) (by decide) (lv' := [(3, (0, 0)), (0, (13, a0)), (1, (14, a1)), (2, (0, a2))]) rfl ?_
  refine r_iconst dX3_referring_2 (by decide) ?_
  refine r_istore dX3_referring_3 (Or.inl rfl) (by decide) (lv' := [(4, (0, 0)), (3, (0, 0)), (0, (13, a0)), (1, (14, a1)), (2, (0, a2))]) rfl ?_
  refine r_sub [2, 3, 4, 1, 0] (lv' := [(0, (13, a0)), (1, (14, a1)), (2, (0, a2)), (3, (0, 0)), (4, (0, 0))]) rfl ?_
  exact lp_ok (w := fun (q : Int × Int) => Wq p l e R s m args below meth c D G A H0 true n0 M_X3_referring x 0 0 5 [(0, (13, a0)), (1, (14, a1)), (2, (0, a2)), (3, (0, q.1)), (4, (0, q.2))] [] (h)) (K := K) (fun ⟨q0, q1⟩ r h1 h2 => oX3_referring_s5 (K := Sum.elim (fun (q : Int × Int) => Wq p l e R s m args below meth c D G A H0 true n0 M_X3_referring x 0 0 5 [(0, (13, a0)), (1, (14, a1)), (2, (0, a2)), (3, (0, q.1)), (4, (0, q.2))] [] (h)) (K)) (fun r z => k0 r z) (fun _ _ z => z) h1 h2) hr hk
end M_X3_referring
theorem oX3_referring {l : Launch} {D : va_G} {G : gG} {h : hH} {a0 a1 a2 : Int} {r : Int} (hr : fX3_referring h a0 a1 a2 = some r) : Ctr l D G true yX3_referring M_X3_referring [(13, a0), (14, a1), (0, a2)] h (some (0, r), h) :=
  Ctr_of (by decide) rfl (fun z => by cases z) (nl rfl) (fun {p e R s m args below meth c A H0} => by
    exact oX3_referring_b0 (K := fun z9 => z9 = r) (fun r9 z => by rw [z]) hr rfl)
/-! X4_reset -/
theorem dX4_reset_0 : decode cX4_reset 0 = .ok (.aload_n 0, 1) := by decide +kernel
theorem dX4_reset_1 : decode cX4_reset 1 = .ok (.iconst 0, 1) := by decide +kernel
theorem dX4_reset_2 : decode cX4_reset 2 = .ok (.putfield 37, 3) := by decide +kernel
theorem dX4_reset_5 : decode cX4_reset 5 = .ok (.aload_n 0, 1) := by decide +kernel
theorem dX4_reset_6 : decode cX4_reset 6 = .ok (.iconst 0, 1) := by decide +kernel
theorem dX4_reset_7 : decode cX4_reset 7 = .ok (.putfield 41, 3) := by decide +kernel
theorem dX4_reset_10 : decode cX4_reset 10 = .ok (.aload_n 0, 1) := by decide +kernel
theorem dX4_reset_11 : decode cX4_reset 11 = .ok (.iconst 0, 1) := by decide +kernel
theorem dX4_reset_12 : decode cX4_reset 12 = .ok (.putfield 44, 3) := by decide +kernel
theorem dX4_reset_15 : decode cX4_reset 15 = .ok (.aload_n 0, 1) := by decide +kernel
theorem dX4_reset_16 : decode cX4_reset 16 = .ok (.iconst 0, 1) := by decide +kernel
theorem dX4_reset_17 : decode cX4_reset 17 = .ok (.putfield 47, 3) := by decide +kernel
theorem dX4_reset_20 : decode cX4_reset 20 = .ok (.aload_n 0, 1) := by decide +kernel
theorem dX4_reset_21 : decode cX4_reset 21 = .ok (.getfield 15, 3) := by decide +kernel
theorem dX4_reset_24 : decode cX4_reset 24 = .ok (.iconst 0, 1) := by decide +kernel
theorem dX4_reset_25 : decode cX4_reset 25 = .ok (.invokestatic 50, 3) := by decide +kernel
theorem dX4_reset_28 : decode cX4_reset 28 = .ok (.aload_n 0, 1) := by decide +kernel
theorem dX4_reset_29 : decode cX4_reset 29 = .ok (.getfield 22, 3) := by decide +kernel
theorem dX4_reset_32 : decode cX4_reset 32 = .ok (.iconst (-1), 1) := by decide +kernel
theorem dX4_reset_33 : decode cX4_reset 33 = .ok (.invokestatic 50, 3) := by decide +kernel
theorem dX4_reset_36 : decode cX4_reset 36 = .ok (.aload_n 0, 1) := by decide +kernel
theorem dX4_reset_37 : decode cX4_reset 37 = .ok (.getfield 25, 3) := by decide +kernel
theorem dX4_reset_40 : decode cX4_reset 40 = .ok (.iconst 0, 1) := by decide +kernel
theorem dX4_reset_41 : decode cX4_reset 41 = .ok (.invokestatic 50, 3) := by decide +kernel
theorem dX4_reset_44 : decode cX4_reset 44 = .ok (.return_, 1) := by decide +kernel
abbrev M_X4_reset : mM := (cX4_reset, 1, RX4, none, false, 1, 23, 0, 0)
theorem gX4_reset : cI yX4_reset M_X4_reset 0 := ⟨(wsl_11 _ (List.mem_of_getElem? (i := 16) rfl)), (wsl_11 _ (List.mem_of_getElem? (i := 17) rfl)), (wsl_1 _ (List.mem_of_getElem? (i := 19) rfl)), (wsl_11 _ (List.mem_of_getElem? (i := 18) rfl)), by decide +kernel⟩
noncomputable def fX4_reset (h : hH) (a0 : Int) : Option (hH) :=
  (pput h a0 0 0).bind fun h2 =>
  (pput h2 a0 1 0).bind fun h7 =>
  (pput h7 a0 2 0).bind fun h12 =>
  (pput h12 a0 3 0).bind fun h17 =>
  (fJ7_fill_53178 h17 (h17 a0 5) 0).bind fun h25 =>
  (fJ7_fill_53178 h25 (h25 a0 7) (-1)).bind fun h33 =>
  (fJ7_fill_53178 h33 (h33 a0 8) 0).bind fun h41 =>
  some h41
section M_X4_reset
variable {p : Program} {l : Launch} {e : Env} {R : Room} {s : State} {m : MethodId} {args : Array Value} {below : List Frame} {meth : Method} {c : Code} {D : va_G} {G : gG} {A : Nat → Prop} {H0 : Heap} {n0 : Int} {x : Option vV × hH} {h : hH}
set_option maxRecDepth 100000 in
set_option maxHeartbeats 4000000 in
theorem oX4_reset_b0 {a0 : Int} {K : hH → Prop} (k0 : ∀ r, K (r) → x = (none, r)) {r : hH} (hr : fX4_reset h a0 = some r) (hk : K r) : Wq p l e R s m args below meth c D G A H0 true n0 M_X4_reset x 0 0 0 [(0, (14, a0))] [] h := by
  unfold fX4_reset at hr
  refine r_aload_n dX4_reset_0 rfl 0 rfl (nl rfl) ?_
  refine r_iconst dX4_reset_1 (by decide) ?_
  obtain ⟨h2, hg2, hr⟩ := bnd hr
  refine r_put' 4 0 (t := 0) (ref := "FollowingRefs$Schema") hg2 rfl tyX4 tyX4_ok nmX4 rfl (by decide) rfl (by decide) inlX4 (wsl_11 _ (List.mem_of_getElem? (i := 19) rfl)) rfl rfl (by decide +kernel) (by decide) rfl (Or.inl ⟨rfl, rfl⟩) dX4_reset_2 ?_
  refine r_aload_n dX4_reset_5 rfl 0 rfl (nl rfl) ?_
  refine r_iconst dX4_reset_6 (by decide) ?_
  obtain ⟨h7, hg7, hr⟩ := bnd hr
  refine r_put' 4 1 (t := 0) (ref := "FollowingRefs$Schema") hg7 rfl tyX4 tyX4_ok nmX4 rfl (by decide) rfl (by decide) inlX4 (wsl_11 _ (List.mem_of_getElem? (i := 20) rfl)) rfl rfl (by decide +kernel) (by decide) rfl (Or.inl ⟨rfl, rfl⟩) dX4_reset_7 ?_
  refine r_aload_n dX4_reset_10 rfl 0 rfl (nl rfl) ?_
  refine r_iconst dX4_reset_11 (by decide) ?_
  obtain ⟨h12, hg12, hr⟩ := bnd hr
  refine r_put' 4 2 (t := 0) (ref := "FollowingRefs$Schema") hg12 rfl tyX4 tyX4_ok nmX4 rfl (by decide) rfl (by decide) inlX4 (wsl_11 _ (List.mem_of_getElem? (i := 21) rfl)) rfl rfl (by decide +kernel) (by decide) rfl (Or.inl ⟨rfl, rfl⟩) dX4_reset_12 ?_
  refine r_aload_n dX4_reset_15 rfl 0 rfl (nl rfl) ?_
  refine r_iconst dX4_reset_16 (by decide) ?_
  obtain ⟨h17, hg17, hr⟩ := bnd hr
  refine r_put' 4 3 (t := 0) (ref := "FollowingRefs$Schema") hg17 rfl tyX4 tyX4_ok nmX4 rfl (by decide) rfl (by decide) inlX4 (wsl_11 _ (List.mem_of_getElem? (i := 22) rfl)) rfl rfl (by decide +kernel) (by decide) rfl (Or.inl ⟨rfl, rfl⟩) dX4_reset_17 ?_
  refine r_aload_n dX4_reset_20 rfl 0 rfl (nl rfl) ?_
  refine r_get 4 5 (o := a0) (w := (50, h17 a0 5)) (T := TX4) (ref := "FollowingRefs$Schema") rfl (by decide) rfl (by decide) inlX4 (wsl_3 _ (List.mem_of_getElem? (i := 17) rfl)) rfl dX4_reset_21 rfl ?_
  refine r_iconst dX4_reset_24 (by decide) ?_
  obtain ⟨h25, hg25, hr⟩ := bnd hr
  refine k_S (as := [(50, h17 a0 5), (0, 0)]) (rest := []) (X := (none, h25)) (oJ7_fill_53178 hg25) gJ7_fill_53178 rfl (wsl_11 _ (List.mem_of_getElem? (i := 23) rfl)) rfl dX4_reset_25 rfl ?_
  refine r_aload_n dX4_reset_28 rfl 0 rfl (nl rfl) ?_
  refine r_get 4 7 (o := a0) (w := (50, h25 a0 7)) (T := TX4) (ref := "FollowingRefs$Schema") rfl (by decide) rfl (by decide) inlX4 (wsl_3 _ (List.mem_of_getElem? (i := 19) rfl)) rfl dX4_reset_29 rfl ?_
  refine r_iconst dX4_reset_32 (by decide) ?_
  obtain ⟨h33, hg33, hr⟩ := bnd hr
  refine k_S (as := [(50, h25 a0 7), (0, -1)]) (rest := []) (X := (none, h33)) (oJ7_fill_53178 hg33) gJ7_fill_53178 rfl (wsl_11 _ (List.mem_of_getElem? (i := 23) rfl)) rfl dX4_reset_33 rfl ?_
  refine r_aload_n dX4_reset_36 rfl 0 rfl (nl rfl) ?_
  refine r_get 4 8 (o := a0) (w := (50, h33 a0 8)) (T := TX4) (ref := "FollowingRefs$Schema") rfl (by decide) rfl (by decide) inlX4 (wsl_3 _ (List.mem_of_getElem? (i := 20) rfl)) rfl dX4_reset_37 rfl ?_
  refine r_iconst dX4_reset_40 (by decide) ?_
  obtain ⟨h41, hg41, hr⟩ := bnd hr
  refine k_S (as := [(50, h33 a0 8), (0, 0)]) (rest := []) (X := (none, h41)) (oJ7_fill_53178 hg41) gJ7_fill_53178 rfl (wsl_11 _ (List.mem_of_getElem? (i := 23) rfl)) rfl dX4_reset_41 rfl ?_
  obtain rfl := Option.some.inj hr
  exact r_vret dX4_reset_44 rfl (k0 _ hk) ⟨rfl, rfl⟩
end M_X4_reset
theorem oX4_reset {l : Launch} {D : va_G} {G : gG} {h : hH} {a0 : Int} {r : hH} (hr : fX4_reset h a0 = some r) : Ctr l D G true yX4_reset M_X4_reset [(14, a0)] h (none, r) :=
  Ctr_of (by decide) rfl (fun z => by cases z) (nl rfl) (fun {p e R s m args below meth c A H0} => by
    exact oX4_reset_b0 (K := fun z9 => z9 = r) (fun r9 z => by rw [z]) hr rfl)
/-! X11_copyWords -/
theorem dX11_copyWords_0 : decode cX11_copyWords 0 = .ok (.aload_n 0, 1) := by decide +kernel
theorem dX11_copyWords_1 : decode cX11_copyWords 1 = .ok (.iconst 0, 1) := by decide +kernel
theorem dX11_copyWords_2 : decode cX11_copyWords 2 = .ok (.aload_n 1, 1) := by decide +kernel
theorem dX11_copyWords_3 : decode cX11_copyWords 3 = .ok (.iconst 0, 1) := by decide +kernel
theorem dX11_copyWords_4 : decode cX11_copyWords 4 = .ok (.aload_n 0, 1) := by decide +kernel
theorem dX11_copyWords_5 : decode cX11_copyWords 5 = .ok (.arraylength, 1) := by decide +kernel
theorem dX11_copyWords_6 : decode cX11_copyWords 6 = .ok (.aload_n 1, 1) := by decide +kernel
theorem dX11_copyWords_7 : decode cX11_copyWords 7 = .ok (.arraylength, 1) := by decide +kernel
theorem dX11_copyWords_8 : decode cX11_copyWords 8 = .ok (.invokestatic 404, 3) := by decide +kernel
theorem dX11_copyWords_11 : decode cX11_copyWords 11 = .ok (.invokestatic 409, 3) := by decide +kernel
theorem dX11_copyWords_14 : decode cX11_copyWords 14 = .ok (.return_, 1) := by decide +kernel
abbrev M_X11_copyWords : mM := (cX11_copyWords, 2, RX11, none, false, 1, 84, 0, 0)
theorem gX11_copyWords : cS yX11_copyWords M_X11_copyWords 2 := ⟨(wsl_22 _ (List.mem_of_getElem? (i := 5) rfl)), (wsl_1 _ (List.mem_of_getElem? (i := 2) rfl)), (wsl_22 _ (List.mem_of_getElem? (i := 6) rfl)), by decide +kernel⟩
noncomputable def fX11_copyWords (h : hH) (a0 a1 : Int) : Option (hH) :=
  (acp h a0 0 a1 0 (miD (h a0 (-1)) (h a1 (-1)))).bind fun h11 =>
  some h11
section M_X11_copyWords
variable {p : Program} {l : Launch} {e : Env} {R : Room} {s : State} {m : MethodId} {args : Array Value} {below : List Frame} {meth : Method} {c : Code} {D : va_G} {G : gG} {A : Nat → Prop} {H0 : Heap} {n0 : Int} {x : Option vV × hH} {h : hH}
set_option maxRecDepth 100000 in
set_option maxHeartbeats 4000000 in
theorem oX11_copyWords_b0 {a0 a1 : Int} {K : hH → Prop} (k0 : ∀ r, K (r) → x = (none, r)) {r : hH} (hr : fX11_copyWords h a0 a1 = some r) (hk : K r) : Wq p l e R s m args below meth c D G A H0 true n0 M_X11_copyWords x 0 0 0 [(0, (51, a0)), (1, (51, a1))] [] h := by
  unfold fX11_copyWords at hr
  refine r_aload_n dX11_copyWords_0 rfl 0 rfl (nl rfl) ?_
  refine r_iconst dX11_copyWords_1 (by decide) ?_
  refine r_aload_n dX11_copyWords_2 rfl 1 rfl (nl rfl) ?_
  refine r_iconst dX11_copyWords_3 (by decide) ?_
  refine r_aload_n dX11_copyWords_4 rfl 0 rfl (nl rfl) ?_
  refine r_alen (t := 51) (by decide) (by decide) dX11_copyWords_5 ?_
  refine r_aload_n dX11_copyWords_6 rfl 1 rfl (nl rfl) ?_
  refine r_alen (t := 51) (by decide) (by decide) dX11_copyWords_7 ?_
  refine r_min dX11_copyWords_8 (wsl_22 _ (List.mem_of_getElem? (i := 7) rfl)) (wsl_12 _ (List.mem_of_getElem? (i := 8) rfl)) (wsl_12 _ (List.mem_of_getElem? (i := 9) rfl)) (wsl_12 _ (List.mem_of_getElem? (i := 10) rfl)) ⟨nl rfl, nl rfl⟩ ⟨nl rfl, nl rfl⟩ ?_
  obtain ⟨h11, hg11, hr⟩ := bnd hr
  refine r_acpl dX11_copyWords_11 hg11 (wsl_22 _ (List.mem_of_getElem? (i := 8) rfl)) (wsl_22 _ (List.mem_of_getElem? (i := 9) rfl)) (wsl_22 _ (List.mem_of_getElem? (i := 10) rfl)) (wsl_22 _ (List.mem_of_getElem? (i := 11) rfl)) ⟨nl rfl, nl rfl⟩ ?_
  obtain rfl := Option.some.inj hr
  exact r_vret dX11_copyWords_14 rfl (k0 _ hk) ⟨rfl, rfl⟩
end M_X11_copyWords
theorem oX11_copyWords {l : Launch} {D : va_G} {G : gG} {h : hH} {a0 a1 : Int} {r : hH} (hr : fX11_copyWords h a0 a1 = some r) : Ctr l D G true yX11_copyWords M_X11_copyWords [(51, a0), (51, a1)] h (none, r) :=
  Ctr_of (by decide) rfl (fun z => by cases z) (nl rfl) (fun {p e R s m args below meth c A H0} => by
    exact oX11_copyWords_b0 (K := fun z9 => z9 = r) (fun r9 z => by rw [z]) hr rfl)
/-! X4_copyFrom -/
theorem dX4_copyFrom_0 : decode cX4_copyFrom 0 = .ok (.aload_n 0, 1) := by decide +kernel
theorem dX4_copyFrom_1 : decode cX4_copyFrom 1 = .ok (.aload_n 1, 1) := by decide +kernel
theorem dX4_copyFrom_2 : decode cX4_copyFrom 2 = .ok (.getfield 37, 3) := by decide +kernel
theorem dX4_copyFrom_5 : decode cX4_copyFrom 5 = .ok (.putfield 37, 3) := by decide +kernel
theorem dX4_copyFrom_8 : decode cX4_copyFrom 8 = .ok (.aload_n 0, 1) := by decide +kernel
theorem dX4_copyFrom_9 : decode cX4_copyFrom 9 = .ok (.aload_n 1, 1) := by decide +kernel
theorem dX4_copyFrom_10 : decode cX4_copyFrom 10 = .ok (.getfield 41, 3) := by decide +kernel
theorem dX4_copyFrom_13 : decode cX4_copyFrom 13 = .ok (.putfield 41, 3) := by decide +kernel
theorem dX4_copyFrom_16 : decode cX4_copyFrom 16 = .ok (.aload_n 0, 1) := by decide +kernel
theorem dX4_copyFrom_17 : decode cX4_copyFrom 17 = .ok (.aload_n 1, 1) := by decide +kernel
theorem dX4_copyFrom_18 : decode cX4_copyFrom 18 = .ok (.getfield 44, 3) := by decide +kernel
theorem dX4_copyFrom_21 : decode cX4_copyFrom 21 = .ok (.putfield 44, 3) := by decide +kernel
theorem dX4_copyFrom_24 : decode cX4_copyFrom 24 = .ok (.aload_n 0, 1) := by decide +kernel
theorem dX4_copyFrom_25 : decode cX4_copyFrom 25 = .ok (.aload_n 1, 1) := by decide +kernel
theorem dX4_copyFrom_26 : decode cX4_copyFrom 26 = .ok (.getfield 47, 3) := by decide +kernel
theorem dX4_copyFrom_29 : decode cX4_copyFrom 29 = .ok (.putfield 47, 3) := by decide +kernel
theorem dX4_copyFrom_32 : decode cX4_copyFrom 32 = .ok (.aload_n 1, 1) := by decide +kernel
theorem dX4_copyFrom_33 : decode cX4_copyFrom 33 = .ok (.getfield 9, 3) := by decide +kernel
theorem dX4_copyFrom_36 : decode cX4_copyFrom 36 = .ok (.aload_n 0, 1) := by decide +kernel
theorem dX4_copyFrom_37 : decode cX4_copyFrom 37 = .ok (.getfield 9, 3) := by decide +kernel
theorem dX4_copyFrom_40 : decode cX4_copyFrom 40 = .ok (.invokestatic 56, 3) := by decide +kernel
theorem dX4_copyFrom_43 : decode cX4_copyFrom 43 = .ok (.aload_n 1, 1) := by decide +kernel
theorem dX4_copyFrom_44 : decode cX4_copyFrom 44 = .ok (.getfield 15, 3) := by decide +kernel
theorem dX4_copyFrom_47 : decode cX4_copyFrom 47 = .ok (.aload_n 0, 1) := by decide +kernel
theorem dX4_copyFrom_48 : decode cX4_copyFrom 48 = .ok (.getfield 15, 3) := by decide +kernel
theorem dX4_copyFrom_51 : decode cX4_copyFrom 51 = .ok (.invokestatic 60, 3) := by decide +kernel
theorem dX4_copyFrom_54 : decode cX4_copyFrom 54 = .ok (.aload_n 1, 1) := by decide +kernel
theorem dX4_copyFrom_55 : decode cX4_copyFrom 55 = .ok (.getfield 19, 3) := by decide +kernel
theorem dX4_copyFrom_58 : decode cX4_copyFrom 58 = .ok (.aload_n 0, 1) := by decide +kernel
theorem dX4_copyFrom_59 : decode cX4_copyFrom 59 = .ok (.getfield 19, 3) := by decide +kernel
theorem dX4_copyFrom_62 : decode cX4_copyFrom 62 = .ok (.invokestatic 56, 3) := by decide +kernel
theorem dX4_copyFrom_65 : decode cX4_copyFrom 65 = .ok (.aload_n 1, 1) := by decide +kernel
theorem dX4_copyFrom_66 : decode cX4_copyFrom 66 = .ok (.getfield 22, 3) := by decide +kernel
theorem dX4_copyFrom_69 : decode cX4_copyFrom 69 = .ok (.aload_n 0, 1) := by decide +kernel
theorem dX4_copyFrom_70 : decode cX4_copyFrom 70 = .ok (.getfield 22, 3) := by decide +kernel
theorem dX4_copyFrom_73 : decode cX4_copyFrom 73 = .ok (.invokestatic 60, 3) := by decide +kernel
theorem dX4_copyFrom_76 : decode cX4_copyFrom 76 = .ok (.aload_n 1, 1) := by decide +kernel
theorem dX4_copyFrom_77 : decode cX4_copyFrom 77 = .ok (.getfield 25, 3) := by decide +kernel
theorem dX4_copyFrom_80 : decode cX4_copyFrom 80 = .ok (.aload_n 0, 1) := by decide +kernel
theorem dX4_copyFrom_81 : decode cX4_copyFrom 81 = .ok (.getfield 25, 3) := by decide +kernel
theorem dX4_copyFrom_84 : decode cX4_copyFrom 84 = .ok (.invokestatic 60, 3) := by decide +kernel
theorem dX4_copyFrom_87 : decode cX4_copyFrom 87 = .ok (.aload_n 1, 1) := by decide +kernel
theorem dX4_copyFrom_88 : decode cX4_copyFrom 88 = .ok (.getfield 28, 3) := by decide +kernel
theorem dX4_copyFrom_91 : decode cX4_copyFrom 91 = .ok (.aload_n 0, 1) := by decide +kernel
theorem dX4_copyFrom_92 : decode cX4_copyFrom 92 = .ok (.getfield 28, 3) := by decide +kernel
theorem dX4_copyFrom_95 : decode cX4_copyFrom 95 = .ok (.invokestatic 60, 3) := by decide +kernel
theorem dX4_copyFrom_98 : decode cX4_copyFrom 98 = .ok (.aload_n 1, 1) := by decide +kernel
theorem dX4_copyFrom_99 : decode cX4_copyFrom 99 = .ok (.getfield 31, 3) := by decide +kernel
theorem dX4_copyFrom_102 : decode cX4_copyFrom 102 = .ok (.aload_n 0, 1) := by decide +kernel
theorem dX4_copyFrom_103 : decode cX4_copyFrom 103 = .ok (.getfield 31, 3) := by decide +kernel
theorem dX4_copyFrom_106 : decode cX4_copyFrom 106 = .ok (.invokestatic 60, 3) := by decide +kernel
theorem dX4_copyFrom_109 : decode cX4_copyFrom 109 = .ok (.aload_n 1, 1) := by decide +kernel
theorem dX4_copyFrom_110 : decode cX4_copyFrom 110 = .ok (.getfield 34, 3) := by decide +kernel
theorem dX4_copyFrom_113 : decode cX4_copyFrom 113 = .ok (.aload_n 0, 1) := by decide +kernel
theorem dX4_copyFrom_114 : decode cX4_copyFrom 114 = .ok (.getfield 34, 3) := by decide +kernel
theorem dX4_copyFrom_117 : decode cX4_copyFrom 117 = .ok (.invokestatic 60, 3) := by decide +kernel
theorem dX4_copyFrom_120 : decode cX4_copyFrom 120 = .ok (.return_, 1) := by decide +kernel
abbrev M_X4_copyFrom : mM := (cX4_copyFrom, 2, RX4, none, false, 2, 105, 0, 0)
theorem gX4_copyFrom : cI yX4_copyFrom M_X4_copyFrom 1 := ⟨(wsl_22 _ (List.mem_of_getElem? (i := 2) rfl)), (wsl_22 _ (List.mem_of_getElem? (i := 3) rfl)), (wsl_1 _ (List.mem_of_getElem? (i := 19) rfl)), (wsl_22 _ (List.mem_of_getElem? (i := 4) rfl)), by decide +kernel⟩
noncomputable def fX4_copyFrom (h : hH) (a0 a1 : Int) : Option (hH) :=
  (pput h a0 0 (h a1 0)).bind fun h5 =>
  (pput h5 a0 1 (h5 a1 1)).bind fun h13 =>
  (pput h13 a0 2 (h13 a1 2)).bind fun h21 =>
  (pput h21 a0 3 (h21 a1 3)).bind fun h29 =>
  (fX11_copyWords h29 (h29 a1 4) (h29 a0 4)).bind fun h40 =>
  (fX11_copy h40 (h40 a1 5) (h40 a0 5)).bind fun h51 =>
  (fX11_copyWords h51 (h51 a1 6) (h51 a0 6)).bind fun h62 =>
  (fX11_copy h62 (h62 a1 7) (h62 a0 7)).bind fun h73 =>
  (fX11_copy h73 (h73 a1 8) (h73 a0 8)).bind fun h84 =>
  (fX11_copy h84 (h84 a1 9) (h84 a0 9)).bind fun h95 =>
  (fX11_copy h95 (h95 a1 10) (h95 a0 10)).bind fun h106 =>
  (fX11_copy h106 (h106 a1 11) (h106 a0 11)).bind fun h117 =>
  some h117
section M_X4_copyFrom
variable {p : Program} {l : Launch} {e : Env} {R : Room} {s : State} {m : MethodId} {args : Array Value} {below : List Frame} {meth : Method} {c : Code} {D : va_G} {G : gG} {A : Nat → Prop} {H0 : Heap} {n0 : Int} {x : Option vV × hH} {h : hH}
set_option maxRecDepth 100000 in
set_option maxHeartbeats 4000000 in
theorem oX4_copyFrom_b0 {a0 a1 : Int} {K : hH → Prop} (k0 : ∀ r, K (r) → x = (none, r)) {r : hH} (hr : fX4_copyFrom h a0 a1 = some r) (hk : K r) : Wq p l e R s m args below meth c D G A H0 true n0 M_X4_copyFrom x 0 0 0 [(0, (14, a0)), (1, (14, a1))] [] h := by
  unfold fX4_copyFrom at hr
  refine r_aload_n dX4_copyFrom_0 rfl 0 rfl (nl rfl) ?_
  refine r_aload_n dX4_copyFrom_1 rfl 1 rfl (nl rfl) ?_
  refine r_get 4 0 (o := a1) (w := (0, h a1 0)) (T := TX4) (ref := "FollowingRefs$Schema") rfl (by decide) rfl (by decide) inlX4 (wsl_11 _ (List.mem_of_getElem? (i := 19) rfl)) rfl dX4_copyFrom_2 rfl ?_
  obtain ⟨h5, hg5, hr⟩ := bnd hr
  refine r_put' 4 0 (t := 0) (ref := "FollowingRefs$Schema") hg5 rfl tyX4 tyX4_ok nmX4 rfl (by decide) rfl (by decide) inlX4 (wsl_11 _ (List.mem_of_getElem? (i := 19) rfl)) rfl rfl (by decide +kernel) (by decide) rfl (Or.inl ⟨rfl, rfl⟩) dX4_copyFrom_5 ?_
  refine r_aload_n dX4_copyFrom_8 rfl 0 rfl (nl rfl) ?_
  refine r_aload_n dX4_copyFrom_9 rfl 1 rfl (nl rfl) ?_
  refine r_get 4 1 (o := a1) (w := (0, h5 a1 1)) (T := TX4) (ref := "FollowingRefs$Schema") rfl (by decide) rfl (by decide) inlX4 (wsl_11 _ (List.mem_of_getElem? (i := 20) rfl)) rfl dX4_copyFrom_10 rfl ?_
  obtain ⟨h13, hg13, hr⟩ := bnd hr
  refine r_put' 4 1 (t := 0) (ref := "FollowingRefs$Schema") hg13 rfl tyX4 tyX4_ok nmX4 rfl (by decide) rfl (by decide) inlX4 (wsl_11 _ (List.mem_of_getElem? (i := 20) rfl)) rfl rfl (by decide +kernel) (by decide) rfl (Or.inl ⟨rfl, rfl⟩) dX4_copyFrom_13 ?_
  refine r_aload_n dX4_copyFrom_16 rfl 0 rfl (nl rfl) ?_
  refine r_aload_n dX4_copyFrom_17 rfl 1 rfl (nl rfl) ?_
  refine r_get 4 2 (o := a1) (w := (0, h13 a1 2)) (T := TX4) (ref := "FollowingRefs$Schema") rfl (by decide) rfl (by decide) inlX4 (wsl_11 _ (List.mem_of_getElem? (i := 21) rfl)) rfl dX4_copyFrom_18 rfl ?_
  obtain ⟨h21, hg21, hr⟩ := bnd hr
  refine r_put' 4 2 (t := 0) (ref := "FollowingRefs$Schema") hg21 rfl tyX4 tyX4_ok nmX4 rfl (by decide) rfl (by decide) inlX4 (wsl_11 _ (List.mem_of_getElem? (i := 21) rfl)) rfl rfl (by decide +kernel) (by decide) rfl (Or.inl ⟨rfl, rfl⟩) dX4_copyFrom_21 ?_
  refine r_aload_n dX4_copyFrom_24 rfl 0 rfl (nl rfl) ?_
  refine r_aload_n dX4_copyFrom_25 rfl 1 rfl (nl rfl) ?_
  refine r_get 4 3 (o := a1) (w := (0, h21 a1 3)) (T := TX4) (ref := "FollowingRefs$Schema") rfl (by decide) rfl (by decide) inlX4 (wsl_11 _ (List.mem_of_getElem? (i := 22) rfl)) rfl dX4_copyFrom_26 rfl ?_
  obtain ⟨h29, hg29, hr⟩ := bnd hr
  refine r_put' 4 3 (t := 0) (ref := "FollowingRefs$Schema") hg29 rfl tyX4 tyX4_ok nmX4 rfl (by decide) rfl (by decide) inlX4 (wsl_11 _ (List.mem_of_getElem? (i := 22) rfl)) rfl rfl (by decide +kernel) (by decide) rfl (Or.inl ⟨rfl, rfl⟩) dX4_copyFrom_29 ?_
  refine r_aload_n dX4_copyFrom_32 rfl 1 rfl (nl rfl) ?_
  refine r_get 4 4 (o := a1) (w := (51, h29 a1 4)) (T := TX4) (ref := "FollowingRefs$Schema") rfl (by decide) rfl (by decide) inlX4 (wsl_3 _ (List.mem_of_getElem? (i := 16) rfl)) rfl dX4_copyFrom_33 rfl ?_
  refine r_aload_n dX4_copyFrom_36 rfl 0 rfl (nl rfl) ?_
  refine r_get 4 4 (o := a0) (w := (51, h29 a0 4)) (T := TX4) (ref := "FollowingRefs$Schema") rfl (by decide) rfl (by decide) inlX4 (wsl_3 _ (List.mem_of_getElem? (i := 16) rfl)) rfl dX4_copyFrom_37 rfl ?_
  obtain ⟨h40, hg40, hr⟩ := bnd hr
  refine k_SN (host := "FollowingRefs") (as := [(51, h29 a1 4), (51, h29 a0 4)]) (rest := []) (X := (none, h40)) (oX11_copyWords hg40) gX11_copyWords rfl (List.mem_of_getElem? (i := 21) rfl) rfl dX4_copyFrom_40 rfl ?_
  refine r_aload_n dX4_copyFrom_43 rfl 1 rfl (nl rfl) ?_
  refine r_get 4 5 (o := a1) (w := (50, h40 a1 5)) (T := TX4) (ref := "FollowingRefs$Schema") rfl (by decide) rfl (by decide) inlX4 (wsl_3 _ (List.mem_of_getElem? (i := 17) rfl)) rfl dX4_copyFrom_44 rfl ?_
  refine r_aload_n dX4_copyFrom_47 rfl 0 rfl (nl rfl) ?_
  refine r_get 4 5 (o := a0) (w := (50, h40 a0 5)) (T := TX4) (ref := "FollowingRefs$Schema") rfl (by decide) rfl (by decide) inlX4 (wsl_3 _ (List.mem_of_getElem? (i := 17) rfl)) rfl dX4_copyFrom_48 rfl ?_
  obtain ⟨h51, hg51, hr⟩ := bnd hr
  refine k_SN (host := "FollowingRefs") (as := [(50, h40 a1 5), (50, h40 a0 5)]) (rest := []) (X := (none, h51)) (oX11_copy hg51) gX11_copy rfl (List.mem_of_getElem? (i := 22) rfl) rfl dX4_copyFrom_51 rfl ?_
  refine r_aload_n dX4_copyFrom_54 rfl 1 rfl (nl rfl) ?_
  refine r_get 4 6 (o := a1) (w := (51, h51 a1 6)) (T := TX4) (ref := "FollowingRefs$Schema") rfl (by decide) rfl (by decide) inlX4 (wsl_3 _ (List.mem_of_getElem? (i := 18) rfl)) rfl dX4_copyFrom_55 rfl ?_
  refine r_aload_n dX4_copyFrom_58 rfl 0 rfl (nl rfl) ?_
  refine r_get 4 6 (o := a0) (w := (51, h51 a0 6)) (T := TX4) (ref := "FollowingRefs$Schema") rfl (by decide) rfl (by decide) inlX4 (wsl_3 _ (List.mem_of_getElem? (i := 18) rfl)) rfl dX4_copyFrom_59 rfl ?_
  obtain ⟨h62, hg62, hr⟩ := bnd hr
  refine k_SN (host := "FollowingRefs") (as := [(51, h51 a1 6), (51, h51 a0 6)]) (rest := []) (X := (none, h62)) (oX11_copyWords hg62) gX11_copyWords rfl (List.mem_of_getElem? (i := 21) rfl) rfl dX4_copyFrom_62 rfl ?_
  refine r_aload_n dX4_copyFrom_65 rfl 1 rfl (nl rfl) ?_
  refine r_get 4 7 (o := a1) (w := (50, h62 a1 7)) (T := TX4) (ref := "FollowingRefs$Schema") rfl (by decide) rfl (by decide) inlX4 (wsl_3 _ (List.mem_of_getElem? (i := 19) rfl)) rfl dX4_copyFrom_66 rfl ?_
  refine r_aload_n dX4_copyFrom_69 rfl 0 rfl (nl rfl) ?_
  refine r_get 4 7 (o := a0) (w := (50, h62 a0 7)) (T := TX4) (ref := "FollowingRefs$Schema") rfl (by decide) rfl (by decide) inlX4 (wsl_3 _ (List.mem_of_getElem? (i := 19) rfl)) rfl dX4_copyFrom_70 rfl ?_
  obtain ⟨h73, hg73, hr⟩ := bnd hr
  refine k_SN (host := "FollowingRefs") (as := [(50, h62 a1 7), (50, h62 a0 7)]) (rest := []) (X := (none, h73)) (oX11_copy hg73) gX11_copy rfl (List.mem_of_getElem? (i := 22) rfl) rfl dX4_copyFrom_73 rfl ?_
  refine r_aload_n dX4_copyFrom_76 rfl 1 rfl (nl rfl) ?_
  refine r_get 4 8 (o := a1) (w := (50, h73 a1 8)) (T := TX4) (ref := "FollowingRefs$Schema") rfl (by decide) rfl (by decide) inlX4 (wsl_3 _ (List.mem_of_getElem? (i := 20) rfl)) rfl dX4_copyFrom_77 rfl ?_
  refine r_aload_n dX4_copyFrom_80 rfl 0 rfl (nl rfl) ?_
  refine r_get 4 8 (o := a0) (w := (50, h73 a0 8)) (T := TX4) (ref := "FollowingRefs$Schema") rfl (by decide) rfl (by decide) inlX4 (wsl_3 _ (List.mem_of_getElem? (i := 20) rfl)) rfl dX4_copyFrom_81 rfl ?_
  obtain ⟨h84, hg84, hr⟩ := bnd hr
  refine k_SN (host := "FollowingRefs") (as := [(50, h73 a1 8), (50, h73 a0 8)]) (rest := []) (X := (none, h84)) (oX11_copy hg84) gX11_copy rfl (List.mem_of_getElem? (i := 22) rfl) rfl dX4_copyFrom_84 rfl ?_
  refine r_aload_n dX4_copyFrom_87 rfl 1 rfl (nl rfl) ?_
  refine r_get 4 9 (o := a1) (w := (50, h84 a1 9)) (T := TX4) (ref := "FollowingRefs$Schema") rfl (by decide) rfl (by decide) inlX4 (wsl_3 _ (List.mem_of_getElem? (i := 21) rfl)) rfl dX4_copyFrom_88 rfl ?_
  refine r_aload_n dX4_copyFrom_91 rfl 0 rfl (nl rfl) ?_
  refine r_get 4 9 (o := a0) (w := (50, h84 a0 9)) (T := TX4) (ref := "FollowingRefs$Schema") rfl (by decide) rfl (by decide) inlX4 (wsl_3 _ (List.mem_of_getElem? (i := 21) rfl)) rfl dX4_copyFrom_92 rfl ?_
  obtain ⟨h95, hg95, hr⟩ := bnd hr
  refine k_SN (host := "FollowingRefs") (as := [(50, h84 a1 9), (50, h84 a0 9)]) (rest := []) (X := (none, h95)) (oX11_copy hg95) gX11_copy rfl (List.mem_of_getElem? (i := 22) rfl) rfl dX4_copyFrom_95 rfl ?_
  refine r_aload_n dX4_copyFrom_98 rfl 1 rfl (nl rfl) ?_
  refine r_get 4 10 (o := a1) (w := (50, h95 a1 10)) (T := TX4) (ref := "FollowingRefs$Schema") rfl (by decide) rfl (by decide) inlX4 (wsl_3 _ (List.mem_of_getElem? (i := 22) rfl)) rfl dX4_copyFrom_99 rfl ?_
  refine r_aload_n dX4_copyFrom_102 rfl 0 rfl (nl rfl) ?_
  refine r_get 4 10 (o := a0) (w := (50, h95 a0 10)) (T := TX4) (ref := "FollowingRefs$Schema") rfl (by decide) rfl (by decide) inlX4 (wsl_3 _ (List.mem_of_getElem? (i := 22) rfl)) rfl dX4_copyFrom_103 rfl ?_
  obtain ⟨h106, hg106, hr⟩ := bnd hr
  refine k_SN (host := "FollowingRefs") (as := [(50, h95 a1 10), (50, h95 a0 10)]) (rest := []) (X := (none, h106)) (oX11_copy hg106) gX11_copy rfl (List.mem_of_getElem? (i := 22) rfl) rfl dX4_copyFrom_106 rfl ?_
  refine r_aload_n dX4_copyFrom_109 rfl 1 rfl (nl rfl) ?_
  refine r_get 4 11 (o := a1) (w := (50, h106 a1 11)) (T := TX4) (ref := "FollowingRefs$Schema") rfl (by decide) rfl (by decide) inlX4 (wsl_3 _ (List.mem_of_getElem? (i := 23) rfl)) rfl dX4_copyFrom_110 rfl ?_
  refine r_aload_n dX4_copyFrom_113 rfl 0 rfl (nl rfl) ?_
  refine r_get 4 11 (o := a0) (w := (50, h106 a0 11)) (T := TX4) (ref := "FollowingRefs$Schema") rfl (by decide) rfl (by decide) inlX4 (wsl_3 _ (List.mem_of_getElem? (i := 23) rfl)) rfl dX4_copyFrom_114 rfl ?_
  obtain ⟨h117, hg117, hr⟩ := bnd hr
  refine k_SN (host := "FollowingRefs") (as := [(50, h106 a1 11), (50, h106 a0 11)]) (rest := []) (X := (none, h117)) (oX11_copy hg117) gX11_copy rfl (List.mem_of_getElem? (i := 22) rfl) rfl dX4_copyFrom_117 rfl ?_
  obtain rfl := Option.some.inj hr
  exact r_vret dX4_copyFrom_120 rfl (k0 _ hk) ⟨rfl, rfl⟩
end M_X4_copyFrom
theorem oX4_copyFrom {l : Launch} {D : va_G} {G : gG} {h : hH} {a0 a1 : Int} {r : hH} (hr : fX4_copyFrom h a0 a1 = some r) : Ctr l D G true yX4_copyFrom M_X4_copyFrom [(14, a0), (14, a1)] h (none, r) :=
  Ctr_of (by decide) rfl (fun z => by cases z) (nl rfl) (fun {p e R s m args below meth c A H0} => by
    exact oX4_copyFrom_b0 (K := fun z9 => z9 = r) (fun r9 z => by rw [z]) hr rfl)
/-! X4_addTable -/
theorem dX4_addTable_0 : decode cX4_addTable 0 = .ok (.aload_n 0, 1) := by decide +kernel
theorem dX4_addTable_1 : decode cX4_addTable 1 = .ok (.getfield 37, 3) := by decide +kernel
theorem dX4_addTable_4 : decode cX4_addTable 4 = .ok (.ifCond .lt 47, 3) := by decide +kernel
theorem dX4_addTable_7 : decode cX4_addTable 7 = .ok (.aload_n 0, 1) := by decide +kernel
theorem dX4_addTable_8 : decode cX4_addTable 8 = .ok (.getfield 37, 3) := by decide +kernel
theorem dX4_addTable_11 : decode cX4_addTable 11 = .ok (.aload_n 0, 1) := by decide +kernel
theorem dX4_addTable_12 : decode cX4_addTable 12 = .ok (.getfield 9, 3) := by decide +kernel
theorem dX4_addTable_15 : decode cX4_addTable 15 = .ok (.arraylength, 1) := by decide +kernel
theorem dX4_addTable_16 : decode cX4_addTable 16 = .ok (.if_icmp .ge 35, 3) := by decide +kernel
theorem dX4_addTable_19 : decode cX4_addTable 19 = .ok (.aload_n 0, 1) := by decide +kernel
theorem dX4_addTable_20 : decode cX4_addTable 20 = .ok (.getfield 9, 3) := by decide +kernel
theorem dX4_addTable_23 : decode cX4_addTable 23 = .ok (.aload_n 0, 1) := by decide +kernel
theorem dX4_addTable_24 : decode cX4_addTable 24 = .ok (.getfield 37, 3) := by decide +kernel
theorem dX4_addTable_27 : decode cX4_addTable 27 = .ok (.lload_n 1, 1) := by decide +kernel
theorem dX4_addTable_28 : decode cX4_addTable 28 = .ok (.lastore, 1) := by decide +kernel
theorem dX4_addTable_29 : decode cX4_addTable 29 = .ok (.aload_n 0, 1) := by decide +kernel
theorem dX4_addTable_30 : decode cX4_addTable 30 = .ok (.getfield 15, 3) := by decide +kernel
theorem dX4_addTable_33 : decode cX4_addTable 33 = .ok (.aload_n 0, 1) := by decide +kernel
theorem dX4_addTable_34 : decode cX4_addTable 34 = .ok (.getfield 37, 3) := by decide +kernel
theorem dX4_addTable_37 : decode cX4_addTable 37 = .ok (.iconst 0, 1) := by decide +kernel
theorem dX4_addTable_38 : decode cX4_addTable 38 = .ok (.invokestatic 64, 3) := by decide +kernel
theorem dX4_addTable_41 : decode cX4_addTable 41 = .ok (.aload_n 0, 1) := by decide +kernel
theorem dX4_addTable_42 : decode cX4_addTable 42 = .ok (.dup, 1) := by decide +kernel
theorem dX4_addTable_43 : decode cX4_addTable 43 = .ok (.getfield 37, 3) := by decide +kernel
theorem dX4_addTable_46 : decode cX4_addTable 46 = .ok (.iconst 1, 1) := by decide +kernel
theorem dX4_addTable_47 : decode cX4_addTable 47 = .ok (.iadd, 1) := by decide +kernel
theorem dX4_addTable_48 : decode cX4_addTable 48 = .ok (.putfield 37, 3) := by decide +kernel
theorem dX4_addTable_51 : decode cX4_addTable 51 = .ok (.return_, 1) := by decide +kernel
abbrev M_X4_addTable : mM := (cX4_addTable, 3, RX4, none, false, 1, 22, 0, 0)
theorem gX4_addTable : cI yX4_addTable M_X4_addTable 1 := ⟨(wsl_17 _ (List.mem_of_getElem? (i := 5) rfl)), (wsl_17 _ (List.mem_of_getElem? (i := 6) rfl)), (wsl_1 _ (List.mem_of_getElem? (i := 19) rfl)), (wsl_17 _ (List.mem_of_getElem? (i := 7) rfl)), by decide +kernel⟩
noncomputable def fX4_addTable (h : hH) (a0 a1 : Int) : Option (hH) :=
  if h a0 0 < 0 then
    some h
  else
    if h a0 0 < h (h a0 4) (-1) then
      (aput h (h a0 4) (h a0 0) a1).bind fun h28 =>
      (fX11_put h28 (h28 a0 5) (h28 a0 0) 0).bind fun h38 =>
      (pput h38 a0 0 (w32 ((h38 a0 0) + 1))).bind fun h48 =>
      some h48
    else
      some h
section M_X4_addTable
variable {p : Program} {l : Launch} {e : Env} {R : Room} {s : State} {m : MethodId} {args : Array Value} {below : List Frame} {meth : Method} {c : Code} {D : va_G} {G : gG} {A : Nat → Prop} {H0 : Heap} {n0 : Int} {x : Option vV × hH} {h : hH}
set_option maxRecDepth 100000 in
set_option maxHeartbeats 4000000 in
theorem oX4_addTable_b0 {a0 a1 : Int} {K : hH → Prop} (k0 : ∀ r, K (r) → x = (none, r)) {r : hH} (hr : fX4_addTable h a0 a1 = some r) (hk : K r) : Wq p l e R s m args below meth c D G A H0 true n0 M_X4_addTable x 0 0 0 [(0, (14, a0)), (1, (1, a1))] [] h := by
  unfold fX4_addTable at hr
  refine r_aload_n dX4_addTable_0 rfl 0 rfl (nl rfl) ?_
  refine r_get 4 0 (o := a0) (w := (0, h a0 0)) (T := TX4) (ref := "FollowingRefs$Schema") rfl (by decide) rfl (by decide) inlX4 (wsl_11 _ (List.mem_of_getElem? (i := 19) rfl)) rfl dX4_addTable_1 rfl ?_
  refine r_if_lt dX4_addTable_4 (tgt := 51) (by decide) (fun hc => ?_) (fun hc => ?_)
  · have hr := ifp hr hc
    obtain rfl := Option.some.inj hr
    exact r_vret dX4_addTable_51 rfl (k0 _ hk) ⟨rfl, rfl⟩
  · have hr := ifn hr hc
    refine r_aload_n dX4_addTable_7 rfl 0 rfl (nl rfl) ?_
    refine r_get 4 0 (o := a0) (w := (0, h a0 0)) (T := TX4) (ref := "FollowingRefs$Schema") rfl (by decide) rfl (by decide) inlX4 (wsl_11 _ (List.mem_of_getElem? (i := 19) rfl)) rfl dX4_addTable_8 rfl ?_
    refine r_aload_n dX4_addTable_11 rfl 0 rfl (nl rfl) ?_
    refine r_get 4 4 (o := a0) (w := (51, h a0 4)) (T := TX4) (ref := "FollowingRefs$Schema") rfl (by decide) rfl (by decide) inlX4 (wsl_3 _ (List.mem_of_getElem? (i := 16) rfl)) rfl dX4_addTable_12 rfl ?_
    refine r_alen (t := 51) (by decide) (by decide) dX4_addTable_15 ?_
    refine r_icmp_ge dX4_addTable_16 (tgt := 51) (by decide) (fun hc => ?_) (fun hc => ?_)
    · have hr := ifn hr hc
      obtain rfl := Option.some.inj hr
      exact r_vret dX4_addTable_51 rfl (k0 _ hk) ⟨rfl, rfl⟩
    · have hr := ifp hr hc
      refine r_aload_n dX4_addTable_19 rfl 0 rfl (nl rfl) ?_
      refine r_get 4 4 (o := a0) (w := (51, h a0 4)) (T := TX4) (ref := "FollowingRefs$Schema") rfl (by decide) rfl (by decide) inlX4 (wsl_3 _ (List.mem_of_getElem? (i := 16) rfl)) rfl dX4_addTable_20 rfl ?_
      refine r_aload_n dX4_addTable_23 rfl 0 rfl (nl rfl) ?_
      refine r_get 4 0 (o := a0) (w := (0, h a0 0)) (T := TX4) (ref := "FollowingRefs$Schema") rfl (by decide) rfl (by decide) inlX4 (wsl_11 _ (List.mem_of_getElem? (i := 19) rfl)) rfl dX4_addTable_24 rfl ?_
      refine r_lload_n dX4_addTable_27 rfl 1 rfl ?_
      obtain ⟨h28, hg28, hr⟩ := bnd hr
      refine r_last dX4_addTable_28 hg28 ?_
      refine r_aload_n dX4_addTable_29 rfl 0 rfl (nl rfl) ?_
      refine r_get 4 5 (o := a0) (w := (50, h28 a0 5)) (T := TX4) (ref := "FollowingRefs$Schema") rfl (by decide) rfl (by decide) inlX4 (wsl_3 _ (List.mem_of_getElem? (i := 17) rfl)) rfl dX4_addTable_30 rfl ?_
      refine r_aload_n dX4_addTable_33 rfl 0 rfl (nl rfl) ?_
      refine r_get 4 0 (o := a0) (w := (0, h28 a0 0)) (T := TX4) (ref := "FollowingRefs$Schema") rfl (by decide) rfl (by decide) inlX4 (wsl_11 _ (List.mem_of_getElem? (i := 19) rfl)) rfl dX4_addTable_34 rfl ?_
      refine r_iconst dX4_addTable_37 (by decide) ?_
      obtain ⟨h38, hg38, hr⟩ := bnd hr
      refine k_SN (host := "FollowingRefs") (as := [(50, h28 a0 5), (0, h28 a0 0), (0, 0)]) (rest := []) (X := (none, h38)) (oX11_put hg38) gX11_put rfl (List.mem_of_getElem? (i := 23) rfl) rfl dX4_addTable_38 rfl ?_
      refine r_aload_n dX4_addTable_41 rfl 0 rfl (nl rfl) ?_
      refine r_dup dX4_addTable_42 (Nat.ne_of_beq_eq_false rfl) ?_
      refine r_get 4 0 (o := a0) (w := (0, h38 a0 0)) (T := TX4) (ref := "FollowingRefs$Schema") rfl (by decide) rfl (by decide) inlX4 (wsl_11 _ (List.mem_of_getElem? (i := 19) rfl)) rfl dX4_addTable_43 rfl ?_
      refine r_iconst dX4_addTable_46 (by decide) ?_
      refine r_iadd dX4_addTable_47 ?_
      obtain ⟨h48, hg48, hr⟩ := bnd hr
      refine r_put' 4 0 (t := 0) (ref := "FollowingRefs$Schema") hg48 rfl tyX4 tyX4_ok nmX4 rfl (by decide) rfl (by decide) inlX4 (wsl_11 _ (List.mem_of_getElem? (i := 19) rfl)) rfl rfl (by decide +kernel) (by decide) rfl (Or.inl ⟨rfl, rfl⟩) dX4_addTable_48 ?_
      obtain rfl := Option.some.inj hr
      exact r_vret dX4_addTable_51 rfl (k0 _ hk) ⟨rfl, rfl⟩
end M_X4_addTable
theorem oX4_addTable {l : Launch} {D : va_G} {G : gG} {h : hH} {a0 a1 : Int} {r : hH} (hr : fX4_addTable h a0 a1 = some r) : Ctr l D G true yX4_addTable M_X4_addTable [(14, a0), (1, a1)] h (none, r) :=
  Ctr_of (by decide) rfl (fun z => by cases z) (nl rfl) (fun {p e R s m args below meth c A H0} => by
    exact oX4_addTable_b0 (K := fun z9 => z9 = r) (fun r9 z => by rw [z]) hr rfl)
/-! X4_addCol -/
theorem dX4_addCol_0 : decode cX4_addCol 0 = .ok (.aload_n 0, 1) := by decide +kernel
theorem dX4_addCol_1 : decode cX4_addCol 1 = .ok (.iload_n 1, 1) := by decide +kernel
theorem dX4_addCol_2 : decode cX4_addCol 2 = .ok (.invokevirtual 68, 3) := by decide +kernel
theorem dX4_addCol_5 : decode cX4_addCol 5 = .ok (.istore 4, 2) := by decide +kernel
theorem dX4_addCol_7 : decode cX4_addCol 7 = .ok (.iload_n 1, 1) := by decide +kernel
theorem dX4_addCol_8 : decode cX4_addCol 8 = .ok (.iconst 4, 1) := by decide +kernel
theorem dX4_addCol_9 : decode cX4_addCol 9 = .ok (.imul, 1) := by decide +kernel
theorem dX4_addCol_10 : decode cX4_addCol 10 = .ok (.iload 4, 2) := by decide +kernel
theorem dX4_addCol_12 : decode cX4_addCol 12 = .ok (.iadd, 1) := by decide +kernel
theorem dX4_addCol_13 : decode cX4_addCol 13 = .ok (.istore 5, 2) := by decide +kernel
theorem dX4_addCol_15 : decode cX4_addCol 15 = .ok (.iload 5, 2) := by decide +kernel
theorem dX4_addCol_17 : decode cX4_addCol 17 = .ok (.ifCond .lt 39, 3) := by decide +kernel
theorem dX4_addCol_20 : decode cX4_addCol 20 = .ok (.iload 5, 2) := by decide +kernel
theorem dX4_addCol_22 : decode cX4_addCol 22 = .ok (.aload_n 0, 1) := by decide +kernel
theorem dX4_addCol_23 : decode cX4_addCol 23 = .ok (.getfield 19, 3) := by decide +kernel
theorem dX4_addCol_26 : decode cX4_addCol 26 = .ok (.arraylength, 1) := by decide +kernel
theorem dX4_addCol_27 : decode cX4_addCol 27 = .ok (.if_icmp .ge 29, 3) := by decide +kernel
theorem dX4_addCol_30 : decode cX4_addCol 30 = .ok (.iload 4, 2) := by decide +kernel
theorem dX4_addCol_32 : decode cX4_addCol 32 = .ok (.iconst 4, 1) := by decide +kernel
theorem dX4_addCol_33 : decode cX4_addCol 33 = .ok (.if_icmp .ge 23, 3) := by decide +kernel
theorem dX4_addCol_36 : decode cX4_addCol 36 = .ok (.aload_n 0, 1) := by decide +kernel
theorem dX4_addCol_37 : decode cX4_addCol 37 = .ok (.getfield 19, 3) := by decide +kernel
theorem dX4_addCol_40 : decode cX4_addCol 40 = .ok (.iload 5, 2) := by decide +kernel
theorem dX4_addCol_42 : decode cX4_addCol 42 = .ok (.lload_n 2, 1) := by decide +kernel
theorem dX4_addCol_43 : decode cX4_addCol 43 = .ok (.lastore, 1) := by decide +kernel
theorem dX4_addCol_44 : decode cX4_addCol 44 = .ok (.aload_n 0, 1) := by decide +kernel
theorem dX4_addCol_45 : decode cX4_addCol 45 = .ok (.getfield 15, 3) := by decide +kernel
theorem dX4_addCol_48 : decode cX4_addCol 48 = .ok (.iload_n 1, 1) := by decide +kernel
theorem dX4_addCol_49 : decode cX4_addCol 49 = .ok (.iload 4, 2) := by decide +kernel
theorem dX4_addCol_51 : decode cX4_addCol 51 = .ok (.iconst 1, 1) := by decide +kernel
theorem dX4_addCol_52 : decode cX4_addCol 52 = .ok (.iadd, 1) := by decide +kernel
theorem dX4_addCol_53 : decode cX4_addCol 53 = .ok (.invokestatic 64, 3) := by decide +kernel
theorem dX4_addCol_56 : decode cX4_addCol 56 = .ok (.return_, 1) := by decide +kernel
abbrev M_X4_addCol : mM := (cX4_addCol, 6, RX4, none, false, 1, 22, 0, 0)
theorem gX4_addCol : cI yX4_addCol M_X4_addCol 2 := ⟨(wsl_17 _ (List.mem_of_getElem? (i := 19) rfl)), (wsl_17 _ (List.mem_of_getElem? (i := 20) rfl)), (wsl_1 _ (List.mem_of_getElem? (i := 19) rfl)), (wsl_17 _ (List.mem_of_getElem? (i := 21) rfl)), by decide +kernel⟩
noncomputable def fX4_addCol (h : hH) (a0 a1 a2 : Int) : Option (hH) :=
  (fX4_width h a0 a1).bind fun r2 =>
  if w32 ((w32 (a1 * 4)) + r2) < 0 then
    some h
  else
    if w32 ((w32 (a1 * 4)) + r2) < h (h a0 6) (-1) then
      if r2 < 4 then
        (aput h (h a0 6) (w32 ((w32 (a1 * 4)) + r2)) a2).bind fun h43 =>
        (fX11_put h43 (h43 a0 5) a1 (w32 (r2 + 1))).bind fun h53 =>
        some h53
      else
        some h
    else
      some h
section M_X4_addCol
variable {p : Program} {l : Launch} {e : Env} {R : Room} {s : State} {m : MethodId} {args : Array Value} {below : List Frame} {meth : Method} {c : Code} {D : va_G} {G : gG} {A : Nat → Prop} {H0 : Heap} {n0 : Int} {x : Option vV × hH} {h : hH}
set_option maxRecDepth 100000 in
set_option maxHeartbeats 4000000 in
theorem oX4_addCol_b0 {a0 a1 a2 : Int} {K : hH → Prop} (k0 : ∀ r, K (r) → x = (none, r)) {r : hH} (hr : fX4_addCol h a0 a1 a2 = some r) (hk : K r) : Wq p l e R s m args below meth c D G A H0 true n0 M_X4_addCol x 0 0 0 [(0, (14, a0)), (1, (0, a1)), (2, (1, a2))] [] h := by
  unfold fX4_addCol at hr
  refine r_aload_n dX4_addCol_0 rfl 0 rfl (nl rfl) ?_
  refine r_iload_n dX4_addCol_1 rfl 1 rfl (Or.inl rfl) ?_
  obtain ⟨r2, hg2, hr⟩ := bnd hr
  refine k_V (ci := 4) (o := a0) (T := TX4) (as := [(0, a1)]) (rest := []) (X := (some (0, r2), h)) (oX4_width hg2) gX4_width rfl (by decide) rfl (wsl_17 _ (List.mem_of_getElem? (i := 22) rfl)) rfl dX4_addCol_2 rfl ?_
  refine r_istore dX4_addCol_5 (Or.inl rfl) (by decide) (lv' := [(4, (0, r2)), (0, (14, a0)), (1, (0, a1)), (2, (1, a2))]) rfl ?_
  refine r_iload_n dX4_addCol_7 rfl 2 rfl (Or.inl rfl) ?_
  refine r_iconst dX4_addCol_8 (by decide) ?_
  refine r_imul dX4_addCol_9 ?_
  refine r_iload dX4_addCol_10 0 rfl (Or.inl rfl) ?_
  refine r_iadd dX4_addCol_12 ?_
  refine r_istore dX4_addCol_13 (Or.inl rfl) (by decide) (lv' := [(5, (0, w32 ((w32 (a1 * 4)) + r2))), (4, (0, r2)), (0, (14, a0)), (1, (0, a1)), (2, (1, a2))]) rfl ?_
  refine r_iload dX4_addCol_15 0 rfl (Or.inl rfl) ?_
  refine r_if_lt dX4_addCol_17 (tgt := 56) (by decide) (fun hc => ?_) (fun hc => ?_)
  · have hr := ifp hr hc
    obtain rfl := Option.some.inj hr
    exact r_vret dX4_addCol_56 rfl (k0 _ hk) ⟨rfl, rfl⟩
  · have hr := ifn hr hc
    refine r_iload dX4_addCol_20 0 rfl (Or.inl rfl) ?_
    refine r_aload_n dX4_addCol_22 rfl 2 rfl (nl rfl) ?_
    refine r_get 4 6 (o := a0) (w := (51, h a0 6)) (T := TX4) (ref := "FollowingRefs$Schema") rfl (by decide) rfl (by decide) inlX4 (wsl_3 _ (List.mem_of_getElem? (i := 18) rfl)) rfl dX4_addCol_23 rfl ?_
    refine r_alen (t := 51) (by decide) (by decide) dX4_addCol_26 ?_
    refine r_icmp_ge dX4_addCol_27 (tgt := 56) (by decide) (fun hc => ?_) (fun hc => ?_)
    · have hr := ifn hr hc
      obtain rfl := Option.some.inj hr
      exact r_vret dX4_addCol_56 rfl (k0 _ hk) ⟨rfl, rfl⟩
    · have hr := ifp hr hc
      refine r_iload dX4_addCol_30 1 rfl (Or.inl rfl) ?_
      refine r_iconst dX4_addCol_32 (by decide) ?_
      refine r_icmp_ge dX4_addCol_33 (tgt := 56) (by decide) (fun hc => ?_) (fun hc => ?_)
      · have hr := ifn hr hc
        obtain rfl := Option.some.inj hr
        exact r_vret dX4_addCol_56 rfl (k0 _ hk) ⟨rfl, rfl⟩
      · have hr := ifp hr hc
        refine r_aload_n dX4_addCol_36 rfl 2 rfl (nl rfl) ?_
        refine r_get 4 6 (o := a0) (w := (51, h a0 6)) (T := TX4) (ref := "FollowingRefs$Schema") rfl (by decide) rfl (by decide) inlX4 (wsl_3 _ (List.mem_of_getElem? (i := 18) rfl)) rfl dX4_addCol_37 rfl ?_
        refine r_iload dX4_addCol_40 0 rfl (Or.inl rfl) ?_
        refine r_lload_n dX4_addCol_42 rfl 4 rfl ?_
        obtain ⟨h43, hg43, hr⟩ := bnd hr
        refine r_last dX4_addCol_43 hg43 ?_
        refine r_aload_n dX4_addCol_44 rfl 2 rfl (nl rfl) ?_
        refine r_get 4 5 (o := a0) (w := (50, h43 a0 5)) (T := TX4) (ref := "FollowingRefs$Schema") rfl (by decide) rfl (by decide) inlX4 (wsl_3 _ (List.mem_of_getElem? (i := 17) rfl)) rfl dX4_addCol_45 rfl ?_
        refine r_iload_n dX4_addCol_48 rfl 3 rfl (Or.inl rfl) ?_
        refine r_iload dX4_addCol_49 1 rfl (Or.inl rfl) ?_
        refine r_iconst dX4_addCol_51 (by decide) ?_
        refine r_iadd dX4_addCol_52 ?_
        obtain ⟨h53, hg53, hr⟩ := bnd hr
        refine k_SN (host := "FollowingRefs") (as := [(50, h43 a0 5), (0, a1), (0, w32 (r2 + 1))]) (rest := []) (X := (none, h53)) (oX11_put hg53) gX11_put rfl (List.mem_of_getElem? (i := 23) rfl) rfl dX4_addCol_53 rfl ?_
        obtain rfl := Option.some.inj hr
        exact r_vret dX4_addCol_56 rfl (k0 _ hk) ⟨rfl, rfl⟩
end M_X4_addCol
theorem oX4_addCol {l : Launch} {D : va_G} {G : gG} {h : hH} {a0 a1 a2 : Int} {r : hH} (hr : fX4_addCol h a0 a1 a2 = some r) : Ctr l D G true yX4_addCol M_X4_addCol [(14, a0), (0, a1), (1, a2)] h (none, r) :=
  Ctr_of (by decide) rfl (fun z => by cases z) (nl rfl) (fun {p e R s m args below meth c A H0} => by
    exact oX4_addCol_b0 (K := fun z9 => z9 = r) (fun r9 z => by rw [z]) hr rfl)
/-! X4_addKey -/
theorem dX4_addKey_0 : decode cX4_addKey 0 = .ok (.aload_n 0, 1) := by decide +kernel
theorem dX4_addKey_1 : decode cX4_addKey 1 = .ok (.getfield 41, 3) := by decide +kernel
theorem dX4_addKey_4 : decode cX4_addKey 4 = .ok (.iconst 3, 1) := by decide +kernel
theorem dX4_addKey_5 : decode cX4_addKey 5 = .ok (.imul, 1) := by decide +kernel
theorem dX4_addKey_6 : decode cX4_addKey 6 = .ok (.istore 4, 2) := by decide +kernel
theorem dX4_addKey_8 : decode cX4_addKey 8 = .ok (.aload_n 0, 1) := by decide +kernel
theorem dX4_addKey_9 : decode cX4_addKey 9 = .ok (.getfield 28, 3) := by decide +kernel
theorem dX4_addKey_12 : decode cX4_addKey 12 = .ok (.iload 4, 2) := by decide +kernel
theorem dX4_addKey_14 : decode cX4_addKey 14 = .ok (.iconst 0, 1) := by decide +kernel
theorem dX4_addKey_15 : decode cX4_addKey 15 = .ok (.iadd, 1) := by decide +kernel
theorem dX4_addKey_16 : decode cX4_addKey 16 = .ok (.iload_n 1, 1) := by decide +kernel
theorem dX4_addKey_17 : decode cX4_addKey 17 = .ok (.invokestatic 64, 3) := by decide +kernel
theorem dX4_addKey_20 : decode cX4_addKey 20 = .ok (.aload_n 0, 1) := by decide +kernel
theorem dX4_addKey_21 : decode cX4_addKey 21 = .ok (.getfield 28, 3) := by decide +kernel
theorem dX4_addKey_24 : decode cX4_addKey 24 = .ok (.iload 4, 2) := by decide +kernel
theorem dX4_addKey_26 : decode cX4_addKey 26 = .ok (.iconst 1, 1) := by decide +kernel
theorem dX4_addKey_27 : decode cX4_addKey 27 = .ok (.iadd, 1) := by decide +kernel
theorem dX4_addKey_28 : decode cX4_addKey 28 = .ok (.iload_n 2, 1) := by decide +kernel
theorem dX4_addKey_29 : decode cX4_addKey 29 = .ok (.invokestatic 64, 3) := by decide +kernel
theorem dX4_addKey_32 : decode cX4_addKey 32 = .ok (.aload_n 0, 1) := by decide +kernel
theorem dX4_addKey_33 : decode cX4_addKey 33 = .ok (.getfield 28, 3) := by decide +kernel
theorem dX4_addKey_36 : decode cX4_addKey 36 = .ok (.iload 4, 2) := by decide +kernel
theorem dX4_addKey_38 : decode cX4_addKey 38 = .ok (.iconst 2, 1) := by decide +kernel
theorem dX4_addKey_39 : decode cX4_addKey 39 = .ok (.iadd, 1) := by decide +kernel
theorem dX4_addKey_40 : decode cX4_addKey 40 = .ok (.iload_n 3, 1) := by decide +kernel
theorem dX4_addKey_41 : decode cX4_addKey 41 = .ok (.invokestatic 64, 3) := by decide +kernel
theorem dX4_addKey_44 : decode cX4_addKey 44 = .ok (.aload_n 0, 1) := by decide +kernel
theorem dX4_addKey_45 : decode cX4_addKey 45 = .ok (.dup, 1) := by decide +kernel
theorem dX4_addKey_46 : decode cX4_addKey 46 = .ok (.getfield 41, 3) := by decide +kernel
theorem dX4_addKey_49 : decode cX4_addKey 49 = .ok (.iconst 1, 1) := by decide +kernel
theorem dX4_addKey_50 : decode cX4_addKey 50 = .ok (.iadd, 1) := by decide +kernel
theorem dX4_addKey_51 : decode cX4_addKey 51 = .ok (.putfield 41, 3) := by decide +kernel
theorem dX4_addKey_54 : decode cX4_addKey 54 = .ok (.return_, 1) := by decide +kernel
abbrev M_X4_addKey : mM := (cX4_addKey, 5, RX4, none, false, 1, 22, 0, 0)
theorem gX4_addKey : cI yX4_addKey M_X4_addKey 3 := ⟨(wsl_19 _ (List.mem_of_getElem? (i := 2) rfl)), (wsl_19 _ (List.mem_of_getElem? (i := 3) rfl)), (wsl_1 _ (List.mem_of_getElem? (i := 19) rfl)), (wsl_19 _ (List.mem_of_getElem? (i := 4) rfl)), by decide +kernel⟩
noncomputable def fX4_addKey (h : hH) (a0 a1 a2 a3 : Int) : Option (hH) :=
  (fX11_put h (h a0 9) (w32 ((w32 ((h a0 1) * 3)) + 0)) a1).bind fun h17 =>
  (fX11_put h17 (h17 a0 9) (w32 ((w32 ((h a0 1) * 3)) + 1)) a2).bind fun h29 =>
  (fX11_put h29 (h29 a0 9) (w32 ((w32 ((h a0 1) * 3)) + 2)) a3).bind fun h41 =>
  (pput h41 a0 1 (w32 ((h41 a0 1) + 1))).bind fun h51 =>
  some h51
section M_X4_addKey
variable {p : Program} {l : Launch} {e : Env} {R : Room} {s : State} {m : MethodId} {args : Array Value} {below : List Frame} {meth : Method} {c : Code} {D : va_G} {G : gG} {A : Nat → Prop} {H0 : Heap} {n0 : Int} {x : Option vV × hH} {h : hH}
set_option maxRecDepth 100000 in
set_option maxHeartbeats 4000000 in
theorem oX4_addKey_b0 {a0 a1 a2 a3 : Int} {K : hH → Prop} (k0 : ∀ r, K (r) → x = (none, r)) {r : hH} (hr : fX4_addKey h a0 a1 a2 a3 = some r) (hk : K r) : Wq p l e R s m args below meth c D G A H0 true n0 M_X4_addKey x 0 0 0 [(0, (14, a0)), (1, (0, a1)), (2, (0, a2)), (3, (0, a3))] [] h := by
  unfold fX4_addKey at hr
  refine r_aload_n dX4_addKey_0 rfl 0 rfl (nl rfl) ?_
  refine r_get 4 1 (o := a0) (w := (0, h a0 1)) (T := TX4) (ref := "FollowingRefs$Schema") rfl (by decide) rfl (by decide) inlX4 (wsl_11 _ (List.mem_of_getElem? (i := 20) rfl)) rfl dX4_addKey_1 rfl ?_
  refine r_iconst dX4_addKey_4 (by decide) ?_
  refine r_imul dX4_addKey_5 ?_
  refine r_istore dX4_addKey_6 (Or.inl rfl) (by decide) (lv' := [(4, (0, w32 ((h a0 1) * 3))), (0, (14, a0)), (1, (0, a1)), (2, (0, a2)), (3, (0, a3))]) rfl ?_
  refine r_aload_n dX4_addKey_8 rfl 1 rfl (nl rfl) ?_
  refine r_get 4 9 (o := a0) (w := (50, h a0 9)) (T := TX4) (ref := "FollowingRefs$Schema") rfl (by decide) rfl (by decide) inlX4 (wsl_3 _ (List.mem_of_getElem? (i := 21) rfl)) rfl dX4_addKey_9 rfl ?_
  refine r_iload dX4_addKey_12 0 rfl (Or.inl rfl) ?_
  refine r_iconst dX4_addKey_14 (by decide) ?_
  refine r_iadd dX4_addKey_15 ?_
  refine r_iload_n dX4_addKey_16 rfl 2 rfl (Or.inl rfl) ?_
  obtain ⟨h17, hg17, hr⟩ := bnd hr
  refine k_SN (host := "FollowingRefs") (as := [(50, h a0 9), (0, w32 ((w32 ((h a0 1) * 3)) + 0)), (0, a1)]) (rest := []) (X := (none, h17)) (oX11_put hg17) gX11_put rfl (List.mem_of_getElem? (i := 23) rfl) rfl dX4_addKey_17 rfl ?_
  refine r_aload_n dX4_addKey_20 rfl 1 rfl (nl rfl) ?_
  refine r_get 4 9 (o := a0) (w := (50, h17 a0 9)) (T := TX4) (ref := "FollowingRefs$Schema") rfl (by decide) rfl (by decide) inlX4 (wsl_3 _ (List.mem_of_getElem? (i := 21) rfl)) rfl dX4_addKey_21 rfl ?_
  refine r_iload dX4_addKey_24 0 rfl (Or.inl rfl) ?_
  refine r_iconst dX4_addKey_26 (by decide) ?_
  refine r_iadd dX4_addKey_27 ?_
  refine r_iload_n dX4_addKey_28 rfl 3 rfl (Or.inl rfl) ?_
  obtain ⟨h29, hg29, hr⟩ := bnd hr
  refine k_SN (host := "FollowingRefs") (as := [(50, h17 a0 9), (0, w32 ((w32 ((h a0 1) * 3)) + 1)), (0, a2)]) (rest := []) (X := (none, h29)) (oX11_put hg29) gX11_put rfl (List.mem_of_getElem? (i := 23) rfl) rfl dX4_addKey_29 rfl ?_
  refine r_aload_n dX4_addKey_32 rfl 1 rfl (nl rfl) ?_
  refine r_get 4 9 (o := a0) (w := (50, h29 a0 9)) (T := TX4) (ref := "FollowingRefs$Schema") rfl (by decide) rfl (by decide) inlX4 (wsl_3 _ (List.mem_of_getElem? (i := 21) rfl)) rfl dX4_addKey_33 rfl ?_
  refine r_iload dX4_addKey_36 0 rfl (Or.inl rfl) ?_
  refine r_iconst dX4_addKey_38 (by decide) ?_
  refine r_iadd dX4_addKey_39 ?_
  refine r_iload_n dX4_addKey_40 rfl 4 rfl (Or.inl rfl) ?_
  obtain ⟨h41, hg41, hr⟩ := bnd hr
  refine k_SN (host := "FollowingRefs") (as := [(50, h29 a0 9), (0, w32 ((w32 ((h a0 1) * 3)) + 2)), (0, a3)]) (rest := []) (X := (none, h41)) (oX11_put hg41) gX11_put rfl (List.mem_of_getElem? (i := 23) rfl) rfl dX4_addKey_41 rfl ?_
  refine r_aload_n dX4_addKey_44 rfl 1 rfl (nl rfl) ?_
  refine r_dup dX4_addKey_45 (Nat.ne_of_beq_eq_false rfl) ?_
  refine r_get 4 1 (o := a0) (w := (0, h41 a0 1)) (T := TX4) (ref := "FollowingRefs$Schema") rfl (by decide) rfl (by decide) inlX4 (wsl_11 _ (List.mem_of_getElem? (i := 20) rfl)) rfl dX4_addKey_46 rfl ?_
  refine r_iconst dX4_addKey_49 (by decide) ?_
  refine r_iadd dX4_addKey_50 ?_
  obtain ⟨h51, hg51, hr⟩ := bnd hr
  refine r_put' 4 1 (t := 0) (ref := "FollowingRefs$Schema") hg51 rfl tyX4 tyX4_ok nmX4 rfl (by decide) rfl (by decide) inlX4 (wsl_11 _ (List.mem_of_getElem? (i := 20) rfl)) rfl rfl (by decide +kernel) (by decide) rfl (Or.inl ⟨rfl, rfl⟩) dX4_addKey_51 ?_
  obtain rfl := Option.some.inj hr
  exact r_vret dX4_addKey_54 rfl (k0 _ hk) ⟨rfl, rfl⟩
end M_X4_addKey
theorem oX4_addKey {l : Launch} {D : va_G} {G : gG} {h : hH} {a0 a1 a2 a3 : Int} {r : hH} (hr : fX4_addKey h a0 a1 a2 a3 = some r) : Ctr l D G true yX4_addKey M_X4_addKey [(14, a0), (0, a1), (0, a2), (0, a3)] h (none, r) :=
  Ctr_of (by decide) rfl (fun z => by cases z) (nl rfl) (fun {p e R s m args below meth c A H0} => by
    exact oX4_addKey_b0 (K := fun z9 => z9 = r) (fun r9 z => by rw [z]) hr rfl)
/-! X4_keyAlike -/
theorem dX4_keyAlike_0 : decode cX4_keyAlike 0 = .ok (.iconst 0, 1) := by decide +kernel
theorem dX4_keyAlike_1 : decode cX4_keyAlike 1 = .ok (.istore 4, 2) := by decide +kernel
theorem dX4_keyAlike_3 : decode cX4_keyAlike 3 = .ok (.iload 4, 2) := by decide +kernel
theorem dX4_keyAlike_5 : decode cX4_keyAlike 5 = .ok (.aload_n 0, 1) := by decide +kernel
theorem dX4_keyAlike_6 : decode cX4_keyAlike 6 = .ok (.getfield 41, 3) := by decide +kernel
theorem dX4_keyAlike_9 : decode cX4_keyAlike 9 = .ok (.if_icmp .ge 45, 3) := by decide +kernel
theorem dX4_keyAlike_12 : decode cX4_keyAlike 12 = .ok (.aload_n 0, 1) := by decide +kernel
theorem dX4_keyAlike_13 : decode cX4_keyAlike 13 = .ok (.iload 4, 2) := by decide +kernel
theorem dX4_keyAlike_15 : decode cX4_keyAlike 15 = .ok (.iconst 0, 1) := by decide +kernel
theorem dX4_keyAlike_16 : decode cX4_keyAlike 16 = .ok (.invokevirtual 91, 3) := by decide +kernel
theorem dX4_keyAlike_19 : decode cX4_keyAlike 19 = .ok (.iload_n 1, 1) := by decide +kernel
theorem dX4_keyAlike_20 : decode cX4_keyAlike 20 = .ok (.if_icmp .ne 28, 3) := by decide +kernel
theorem dX4_keyAlike_23 : decode cX4_keyAlike 23 = .ok (.aload_n 0, 1) := by decide +kernel
theorem dX4_keyAlike_24 : decode cX4_keyAlike 24 = .ok (.iload 4, 2) := by decide +kernel
theorem dX4_keyAlike_26 : decode cX4_keyAlike 26 = .ok (.iconst 1, 1) := by decide +kernel
theorem dX4_keyAlike_27 : decode cX4_keyAlike 27 = .ok (.invokevirtual 91, 3) := by decide +kernel
theorem dX4_keyAlike_30 : decode cX4_keyAlike 30 = .ok (.iload_n 2, 1) := by decide +kernel
theorem dX4_keyAlike_31 : decode cX4_keyAlike 31 = .ok (.if_icmp .ne 17, 3) := by decide +kernel
theorem dX4_keyAlike_34 : decode cX4_keyAlike 34 = .ok (.aload_n 0, 1) := by decide +kernel
theorem dX4_keyAlike_35 : decode cX4_keyAlike 35 = .ok (.iload 4, 2) := by decide +kernel
theorem dX4_keyAlike_37 : decode cX4_keyAlike 37 = .ok (.iconst 2, 1) := by decide +kernel
theorem dX4_keyAlike_38 : decode cX4_keyAlike 38 = .ok (.invokevirtual 91, 3) := by decide +kernel
theorem dX4_keyAlike_41 : decode cX4_keyAlike 41 = .ok (.iload_n 3, 1) := by decide +kernel
theorem dX4_keyAlike_42 : decode cX4_keyAlike 42 = .ok (.if_icmp .ne 6, 3) := by decide +kernel
theorem dX4_keyAlike_45 : decode cX4_keyAlike 45 = .ok (.iload 4, 2) := by decide +kernel
theorem dX4_keyAlike_47 : decode cX4_keyAlike 47 = .ok (.ireturn, 1) := by decide +kernel
theorem dX4_keyAlike_48 : decode cX4_keyAlike 48 = .ok (.iinc 4 1, 3) := by decide +kernel
theorem dX4_keyAlike_51 : decode cX4_keyAlike 51 = .ok (.goto (-48), 3) := by decide +kernel
theorem dX4_keyAlike_54 : decode cX4_keyAlike 54 = .ok (.iconst (-1), 1) := by decide +kernel
theorem dX4_keyAlike_55 : decode cX4_keyAlike 55 = .ok (.ireturn, 1) := by decide +kernel
abbrev M_X4_keyAlike : mM := (cX4_keyAlike, 5, RX4, some .int, false, 2, 43, 0, 0)
theorem gX4_keyAlike : cI yX4_keyAlike M_X4_keyAlike 3 := ⟨(wsl_19 _ (List.mem_of_getElem? (i := 20) rfl)), (wsl_19 _ (List.mem_of_getElem? (i := 21) rfl)), (wsl_1 _ (List.mem_of_getElem? (i := 19) rfl)), (wsl_19 _ (List.mem_of_getElem? (i := 22) rfl)), by decide +kernel⟩
noncomputable def fX4_keyAlike_s3 (h : hH) (a0 a1 a2 a3 : Int) : Int → Option ((Int) ⊕ (Int)) := fun l4 =>
  if l4 < h a0 1 then
    (fX4_keyPart h a0 l4 0).bind fun r16 =>
    if r16 = a1 then
      (fX4_keyPart h a0 l4 1).bind fun r27 =>
      if r27 = a2 then
        (fX4_keyPart h a0 l4 2).bind fun r38 =>
        if r38 = a3 then
          some (.inr (l4))
        else
          some (.inl (w32 (l4 + 1)))
      else
        some (.inl (w32 (l4 + 1)))
    else
      some (.inl (w32 (l4 + 1)))
  else
    some (.inr (-1))
noncomputable def fX4_keyAlike (h : hH) (a0 a1 a2 a3 : Int) : Option (Int) :=
  lpO (fX4_keyAlike_s3 h a0 a1 a2 a3) 0
section M_X4_keyAlike
variable {p : Program} {l : Launch} {e : Env} {R : Room} {s : State} {m : MethodId} {args : Array Value} {below : List Frame} {meth : Method} {c : Code} {D : va_G} {G : gG} {A : Nat → Prop} {H0 : Heap} {n0 : Int} {x : Option vV × hH} {h : hH}
set_option maxRecDepth 100000 in
set_option maxHeartbeats 4000000 in
theorem oX4_keyAlike_s3 {a0 a1 a2 a3 l4 : Int} {K : (Int) ⊕ (Int) → Prop} (k0 : ∀ r, K (.inr (r)) → x = (some (0, r), h)) (k1 : ∀ (l4 : Int), K (.inl l4) → Wq p l e R s m args below meth c D G A H0 true n0 M_X4_keyAlike x 0 0 3 [(0, (14, a0)), (1, (0, a1)), (2, (0, a2)), (3, (0, a3)), (4, (0, l4))] [] h) {r : (Int) ⊕ (Int)} (hr : fX4_keyAlike_s3 h a0 a1 a2 a3 l4 = some r) (hk : K r) : Wq p l e R s m args below meth c D G A H0 true n0 M_X4_keyAlike x 0 0 3 [(0, (14, a0)), (1, (0, a1)), (2, (0, a2)), (3, (0, a3)), (4, (0, l4))] [] h := by
  unfold fX4_keyAlike_s3 at hr
  refine r_iload dX4_keyAlike_3 4 rfl (Or.inl rfl) ?_
  refine r_aload_n dX4_keyAlike_5 rfl 0 rfl (nl rfl) ?_
  refine r_get 4 1 (o := a0) (w := (0, h a0 1)) (T := TX4) (ref := "FollowingRefs$Schema") rfl (by decide) rfl (by decide) inlX4 (wsl_11 _ (List.mem_of_getElem? (i := 20) rfl)) rfl dX4_keyAlike_6 rfl ?_
  refine r_icmp_ge dX4_keyAlike_9 (tgt := 54) (by decide) (fun hc => ?_) (fun hc => ?_)
  · have hr := ifn hr hc
    refine r_iconst dX4_keyAlike_54 (by decide) ?_
    obtain rfl := Option.some.inj hr
    exact r_ret dX4_keyAlike_55 rfl (Or.inl ⟨rfl, rfl⟩) (k0 _ hk) ⟨rfl, rfl⟩
  · have hr := ifp hr hc
    refine r_aload_n dX4_keyAlike_12 rfl 0 rfl (nl rfl) ?_
    refine r_iload dX4_keyAlike_13 4 rfl (Or.inl rfl) ?_
    refine r_iconst dX4_keyAlike_15 (by decide) ?_
    obtain ⟨r16, hg16, hr⟩ := bnd hr
    refine k_V (ci := 4) (o := a0) (T := TX4) (as := [(0, l4), (0, 0)]) (rest := []) (X := (some (0, r16), h)) (oX4_keyPart hg16) gX4_keyPart rfl (by decide) rfl (wsl_19 _ (List.mem_of_getElem? (i := 23) rfl)) rfl dX4_keyAlike_16 rfl ?_
    refine r_iload_n dX4_keyAlike_19 rfl 1 rfl (Or.inl rfl) ?_
    refine r_icmp_ne dX4_keyAlike_20 (tgt := 48) (by decide) (fun hc => ?_) (fun hc => ?_)
    · have hr := ifn hr hc
      refine r_iinc (k := 4) (v := l4) dX4_keyAlike_48 rfl (by decide) (lv' := [(4, (0, w32 (l4 + 1))), (0, (14, a0)), (1, (0, a1)), (2, (0, a2)), (3, (0, a3))]) rfl ?_
      refine r_goto dX4_keyAlike_51 (tgt := 3) (by decide) ?_
      refine r_sub [1, 2, 3, 4, 0] (lv' := [(0, (14, a0)), (1, (0, a1)), (2, (0, a2)), (3, (0, a3)), (4, (0, w32 (l4 + 1)))]) rfl ?_
      obtain rfl := Option.some.inj hr
      exact k1 _ hk
    · have hr := ifp hr hc
      refine r_aload_n dX4_keyAlike_23 rfl 0 rfl (nl rfl) ?_
      refine r_iload dX4_keyAlike_24 4 rfl (Or.inl rfl) ?_
      refine r_iconst dX4_keyAlike_26 (by decide) ?_
      obtain ⟨r27, hg27, hr⟩ := bnd hr
      refine k_V (ci := 4) (o := a0) (T := TX4) (as := [(0, l4), (0, 1)]) (rest := []) (X := (some (0, r27), h)) (oX4_keyPart hg27) gX4_keyPart rfl (by decide) rfl (wsl_19 _ (List.mem_of_getElem? (i := 23) rfl)) rfl dX4_keyAlike_27 rfl ?_
      refine r_iload_n dX4_keyAlike_30 rfl 2 rfl (Or.inl rfl) ?_
      refine r_icmp_ne dX4_keyAlike_31 (tgt := 48) (by decide) (fun hc => ?_) (fun hc => ?_)
      · have hr := ifn hr hc
        refine r_iinc (k := 4) (v := l4) dX4_keyAlike_48 rfl (by decide) (lv' := [(4, (0, w32 (l4 + 1))), (0, (14, a0)), (1, (0, a1)), (2, (0, a2)), (3, (0, a3))]) rfl ?_
        refine r_goto dX4_keyAlike_51 (tgt := 3) (by decide) ?_
        refine r_sub [1, 2, 3, 4, 0] (lv' := [(0, (14, a0)), (1, (0, a1)), (2, (0, a2)), (3, (0, a3)), (4, (0, w32 (l4 + 1)))]) rfl ?_
        obtain rfl := Option.some.inj hr
        exact k1 _ hk
      · have hr := ifp hr hc
        refine r_aload_n dX4_keyAlike_34 rfl 0 rfl (nl rfl) ?_
        refine r_iload dX4_keyAlike_35 4 rfl (Or.inl rfl) ?_
        refine r_iconst dX4_keyAlike_37 (by decide) ?_
        obtain ⟨r38, hg38, hr⟩ := bnd hr
        refine k_V (ci := 4) (o := a0) (T := TX4) (as := [(0, l4), (0, 2)]) (rest := []) (X := (some (0, r38), h)) (oX4_keyPart hg38) gX4_keyPart rfl (by decide) rfl (wsl_19 _ (List.mem_of_getElem? (i := 23) rfl)) rfl dX4_keyAlike_38 rfl ?_
        refine r_iload_n dX4_keyAlike_41 rfl 3 rfl (Or.inl rfl) ?_
        refine r_icmp_ne dX4_keyAlike_42 (tgt := 48) (by decide) (fun hc => ?_) (fun hc => ?_)
        · have hr := ifn hr hc
          refine r_iinc (k := 4) (v := l4) dX4_keyAlike_48 rfl (by decide) (lv' := [(4, (0, w32 (l4 + 1))), (0, (14, a0)), (1, (0, a1)), (2, (0, a2)), (3, (0, a3))]) rfl ?_
          refine r_goto dX4_keyAlike_51 (tgt := 3) (by decide) ?_
          refine r_sub [1, 2, 3, 4, 0] (lv' := [(0, (14, a0)), (1, (0, a1)), (2, (0, a2)), (3, (0, a3)), (4, (0, w32 (l4 + 1)))]) rfl ?_
          obtain rfl := Option.some.inj hr
          exact k1 _ hk
        · have hr := ifp hr hc
          refine r_iload dX4_keyAlike_45 4 rfl (Or.inl rfl) ?_
          obtain rfl := Option.some.inj hr
          exact r_ret dX4_keyAlike_47 rfl (Or.inl ⟨rfl, rfl⟩) (k0 _ hk) ⟨rfl, rfl⟩
set_option maxRecDepth 100000 in
set_option maxHeartbeats 4000000 in
theorem oX4_keyAlike_b0 {a0 a1 a2 a3 : Int} {K : Int → Prop} (k0 : ∀ r, K (r) → x = (some (0, r), h)) {r : Int} (hr : fX4_keyAlike h a0 a1 a2 a3 = some r) (hk : K r) : Wq p l e R s m args below meth c D G A H0 true n0 M_X4_keyAlike x 0 0 0 [(0, (14, a0)), (1, (0, a1)), (2, (0, a2)), (3, (0, a3))] [] h := by
  unfold fX4_keyAlike at hr
  refine r_iconst dX4_keyAlike_0 (by decide) ?_
  refine r_istore dX4_keyAlike_1 (Or.inl rfl) (by decide) (lv' := [(4, (0, 0)), (0, (14, a0)), (1, (0, a1)), (2, (0, a2)), (3, (0, a3))]) rfl ?_
  refine r_sub [1, 2, 3, 4, 0] (lv' := [(0, (14, a0)), (1, (0, a1)), (2, (0, a2)), (3, (0, a3)), (4, (0, 0))]) rfl ?_
  exact lp_ok (w := fun (q : Int) => Wq p l e R s m args below meth c D G A H0 true n0 M_X4_keyAlike x 0 0 3 [(0, (14, a0)), (1, (0, a1)), (2, (0, a2)), (3, (0, a3)), (4, (0, q))] [] (h)) (K := K) (fun q r h1 h2 => oX4_keyAlike_s3 (K := Sum.elim (fun (q : Int) => Wq p l e R s m args below meth c D G A H0 true n0 M_X4_keyAlike x 0 0 3 [(0, (14, a0)), (1, (0, a1)), (2, (0, a2)), (3, (0, a3)), (4, (0, q))] [] (h)) (K)) (fun r z => k0 r z) (fun _ z => z) h1 h2) hr hk
end M_X4_keyAlike
theorem oX4_keyAlike {l : Launch} {D : va_G} {G : gG} {h : hH} {a0 a1 a2 a3 : Int} {r : Int} (hr : fX4_keyAlike h a0 a1 a2 a3 = some r) : Ctr l D G true yX4_keyAlike M_X4_keyAlike [(14, a0), (0, a1), (0, a2), (0, a3)] h (some (0, r), h) :=
  Ctr_of (by decide) rfl (fun z => by cases z) (nl rfl) (fun {p e R s m args below meth c A H0} => by
    exact oX4_keyAlike_b0 (K := fun z9 => z9 = r) (fun r9 z => by rw [z]) hr rfl)
/-! X4_keysOf -/
theorem dX4_keysOf_0 : decode cX4_keysOf 0 = .ok (.iconst 0, 1) := by decide +kernel
theorem dX4_keysOf_1 : decode cX4_keysOf 1 = .ok (.istore_n 2, 1) := by decide +kernel
theorem dX4_keysOf_2 : decode cX4_keysOf 2 = .ok (.iconst 0, 1) := by decide +kernel
theorem dX4_keysOf_3 : decode cX4_keysOf 3 = .ok (.istore_n 3, 1) := by decide +kernel
theorem dX4_keysOf_4 : decode cX4_keysOf 4 = .ok (.iload_n 3, 1) := by decide +kernel
theorem dX4_keysOf_5 : decode cX4_keysOf 5 = .ok (.aload_n 0, 1) := by decide +kernel
theorem dX4_keysOf_6 : decode cX4_keysOf 6 = .ok (.getfield 41, 3) := by decide +kernel
theorem dX4_keysOf_9 : decode cX4_keysOf 9 = .ok (.if_icmp .ge 25, 3) := by decide +kernel
theorem dX4_keysOf_12 : decode cX4_keysOf 12 = .ok (.aload_n 0, 1) := by decide +kernel
theorem dX4_keysOf_13 : decode cX4_keysOf 13 = .ok (.iload_n 3, 1) := by decide +kernel
theorem dX4_keysOf_14 : decode cX4_keysOf 14 = .ok (.iconst 0, 1) := by decide +kernel
theorem dX4_keysOf_15 : decode cX4_keysOf 15 = .ok (.invokevirtual 91, 3) := by decide +kernel
theorem dX4_keysOf_18 : decode cX4_keysOf 18 = .ok (.iload_n 1, 1) := by decide +kernel
theorem dX4_keysOf_19 : decode cX4_keysOf 19 = .ok (.if_icmp .ne 9, 3) := by decide +kernel
theorem dX4_keysOf_22 : decode cX4_keysOf 22 = .ok (.iload_n 2, 1) := by decide +kernel
theorem dX4_keysOf_23 : decode cX4_keysOf 23 = .ok (.iconst 1, 1) := by decide +kernel
theorem dX4_keysOf_24 : decode cX4_keysOf 24 = .ok (.iload_n 3, 1) := by decide +kernel
theorem dX4_keysOf_25 : decode cX4_keysOf 25 = .ok (.ishl, 1) := by decide +kernel
theorem dX4_keysOf_26 : decode cX4_keysOf 26 = .ok (.ior, 1) := by decide +kernel
theorem dX4_keysOf_27 : decode cX4_keysOf 27 = .ok (.istore_n 2, 1) := by decide +kernel
theorem dX4_keysOf_28 : decode cX4_keysOf 28 = .ok (.iinc 3 1, 3) := by decide +kernel
theorem dX4_keysOf_31 : decode cX4_keysOf 31 = .ok (.goto (-27), 3) := by decide +kernel
theorem dX4_keysOf_34 : decode cX4_keysOf 34 = .ok (.iload_n 2, 1) := by decide +kernel
theorem dX4_keysOf_35 : decode cX4_keysOf 35 = .ok (.ireturn, 1) := by decide +kernel
abbrev M_X4_keysOf : mM := (cX4_keysOf, 4, RX4, some .int, false, 2, 43, 0, 0)
theorem gX4_keysOf : cI yX4_keysOf M_X4_keysOf 1 := ⟨(wsl_57 _ (List.mem_of_getElem? (i := 7) rfl)), (wsl_57 _ (List.mem_of_getElem? (i := 8) rfl)), (wsl_1 _ (List.mem_of_getElem? (i := 19) rfl)), (wsl_57 _ (List.mem_of_getElem? (i := 9) rfl)), by decide +kernel⟩
noncomputable def fX4_keysOf_s4 (h : hH) (a0 a1 : Int) : Int × Int → Option ((Int × Int) ⊕ (Int)) := fun (l2, l3) =>
  if l3 < h a0 1 then
    (fX4_keyPart h a0 l3 0).bind fun r15 =>
    if r15 = a1 then
      some (.inl (iorD l2 (ishD 1 l3), w32 (l3 + 1)))
    else
      some (.inl (l2, w32 (l3 + 1)))
  else
    some (.inr (l2))
noncomputable def fX4_keysOf (h : hH) (a0 a1 : Int) : Option (Int) :=
  lpO (fX4_keysOf_s4 h a0 a1) (0, 0)
section M_X4_keysOf
variable {p : Program} {l : Launch} {e : Env} {R : Room} {s : State} {m : MethodId} {args : Array Value} {below : List Frame} {meth : Method} {c : Code} {D : va_G} {G : gG} {A : Nat → Prop} {H0 : Heap} {n0 : Int} {x : Option vV × hH} {h : hH}
set_option maxRecDepth 100000 in
set_option maxHeartbeats 4000000 in
theorem oX4_keysOf_s4 {a0 a1 l2 l3 : Int} {K : (Int × Int) ⊕ (Int) → Prop} (k0 : ∀ r, K (.inr (r)) → x = (some (0, r), h)) (k1 : ∀ (l2 : Int) (l3 : Int), K (.inl (l2, l3)) → Wq p l e R s m args below meth c D G A H0 true n0 M_X4_keysOf x 0 0 4 [(0, (14, a0)), (1, (0, a1)), (2, (0, l2)), (3, (0, l3))] [] h) {r : (Int × Int) ⊕ (Int)} (hr : fX4_keysOf_s4 h a0 a1 (l2, l3) = some r) (hk : K r) : Wq p l e R s m args below meth c D G A H0 true n0 M_X4_keysOf x 0 0 4 [(0, (14, a0)), (1, (0, a1)), (2, (0, l2)), (3, (0, l3))] [] h := by
  unfold fX4_keysOf_s4 at hr
  refine r_iload_n dX4_keysOf_4 rfl 3 rfl (Or.inl rfl) ?_
  refine r_aload_n dX4_keysOf_5 rfl 0 rfl (nl rfl) ?_
  refine r_get 4 1 (o := a0) (w := (0, h a0 1)) (T := TX4) (ref := "FollowingRefs$Schema") rfl (by decide) rfl (by decide) inlX4 (wsl_11 _ (List.mem_of_getElem? (i := 20) rfl)) rfl dX4_keysOf_6 rfl ?_
  refine r_icmp_ge dX4_keysOf_9 (tgt := 34) (by decide) (fun hc => ?_) (fun hc => ?_)
  · have hr := ifn hr hc
    refine r_iload_n dX4_keysOf_34 rfl 2 rfl (Or.inl rfl) ?_
    obtain rfl := Option.some.inj hr
    exact r_ret dX4_keysOf_35 rfl (Or.inl ⟨rfl, rfl⟩) (k0 _ hk) ⟨rfl, rfl⟩
  · have hr := ifp hr hc
    refine r_aload_n dX4_keysOf_12 rfl 0 rfl (nl rfl) ?_
    refine r_iload_n dX4_keysOf_13 rfl 3 rfl (Or.inl rfl) ?_
    refine r_iconst dX4_keysOf_14 (by decide) ?_
    obtain ⟨r15, hg15, hr⟩ := bnd hr
    refine k_V (ci := 4) (o := a0) (T := TX4) (as := [(0, l3), (0, 0)]) (rest := []) (X := (some (0, r15), h)) (oX4_keyPart hg15) gX4_keyPart rfl (by decide) rfl (wsl_19 _ (List.mem_of_getElem? (i := 23) rfl)) rfl dX4_keysOf_15 rfl ?_
    refine r_iload_n dX4_keysOf_18 rfl 1 rfl (Or.inl rfl) ?_
    refine r_icmp_ne dX4_keysOf_19 (tgt := 28) (by decide) (fun hc => ?_) (fun hc => ?_)
    · have hr := ifn hr hc
      refine r_iinc (k := 3) (v := l3) dX4_keysOf_28 rfl (by decide) (lv' := [(3, (0, w32 (l3 + 1))), (0, (14, a0)), (1, (0, a1)), (2, (0, l2))]) rfl ?_
      refine r_goto dX4_keysOf_31 (tgt := 4) (by decide) ?_
      refine r_sub [1, 2, 3, 0] (lv' := [(0, (14, a0)), (1, (0, a1)), (2, (0, l2)), (3, (0, w32 (l3 + 1)))]) rfl ?_
      obtain rfl := Option.some.inj hr
      exact k1 _ _ hk
    · have hr := ifp hr hc
      refine r_iload_n dX4_keysOf_22 rfl 2 rfl (Or.inl rfl) ?_
      refine r_iconst dX4_keysOf_23 (by decide) ?_
      refine r_iload_n dX4_keysOf_24 rfl 3 rfl (Or.inl rfl) ?_
      refine r_ishl dX4_keysOf_25 ?_
      refine r_ior dX4_keysOf_26 ?_
      refine r_istore_n dX4_keysOf_27 rfl (Or.inl rfl) (by decide) (lv' := [(2, (0, iorD l2 (ishD 1 l3))), (0, (14, a0)), (1, (0, a1)), (3, (0, l3))]) rfl ?_
      refine r_iinc (k := 3) (v := l3) dX4_keysOf_28 rfl (by decide) (lv' := [(3, (0, w32 (l3 + 1))), (2, (0, iorD l2 (ishD 1 l3))), (0, (14, a0)), (1, (0, a1))]) rfl ?_
      refine r_goto dX4_keysOf_31 (tgt := 4) (by decide) ?_
      refine r_sub [2, 3, 1, 0] (lv' := [(0, (14, a0)), (1, (0, a1)), (2, (0, iorD l2 (ishD 1 l3))), (3, (0, w32 (l3 + 1)))]) rfl ?_
      obtain rfl := Option.some.inj hr
      exact k1 _ _ hk
set_option maxRecDepth 100000 in
set_option maxHeartbeats 4000000 in
theorem oX4_keysOf_b0 {a0 a1 : Int} {K : Int → Prop} (k0 : ∀ r, K (r) → x = (some (0, r), h)) {r : Int} (hr : fX4_keysOf h a0 a1 = some r) (hk : K r) : Wq p l e R s m args below meth c D G A H0 true n0 M_X4_keysOf x 0 0 0 [(0, (14, a0)), (1, (0, a1))] [] h := by
  unfold fX4_keysOf at hr
  refine r_iconst dX4_keysOf_0 (by decide) ?_
  refine r_istore_n dX4_keysOf_1 rfl (Or.inl rfl) (by decide) (lv' := [(2, (0, 0)), (0, (14, a0)), (1, (0, a1))]) rfl ?_
  refine r_iconst dX4_keysOf_2 (by decide) ?_
  refine r_istore_n dX4_keysOf_3 rfl (Or.inl rfl) (by decide) (lv' := [(3, (0, 0)), (2, (0, 0)), (0, (14, a0)), (1, (0, a1))]) rfl ?_
  refine r_sub [2, 3, 1, 0] (lv' := [(0, (14, a0)), (1, (0, a1)), (2, (0, 0)), (3, (0, 0))]) rfl ?_
  exact lp_ok (w := fun (q : Int × Int) => Wq p l e R s m args below meth c D G A H0 true n0 M_X4_keysOf x 0 0 4 [(0, (14, a0)), (1, (0, a1)), (2, (0, q.1)), (3, (0, q.2))] [] (h)) (K := K) (fun ⟨q0, q1⟩ r h1 h2 => oX4_keysOf_s4 (K := Sum.elim (fun (q : Int × Int) => Wq p l e R s m args below meth c D G A H0 true n0 M_X4_keysOf x 0 0 4 [(0, (14, a0)), (1, (0, a1)), (2, (0, q.1)), (3, (0, q.2))] [] (h)) (K)) (fun r z => k0 r z) (fun _ _ z => z) h1 h2) hr hk
end M_X4_keysOf
theorem oX4_keysOf {l : Launch} {D : va_G} {G : gG} {h : hH} {a0 a1 : Int} {r : Int} (hr : fX4_keysOf h a0 a1 = some r) : Ctr l D G true yX4_keysOf M_X4_keysOf [(14, a0), (0, a1)] h (some (0, r), h) :=
  Ctr_of (by decide) rfl (fun z => by cases z) (nl rfl) (fun {p e R s m args below meth c A H0} => by
    exact oX4_keysOf_b0 (K := fun z9 => z9 = r) (fun r9 z => by rw [z]) hr rfl)
/-! X4_refsWith -/
theorem dX4_refsWith_0 : decode cX4_refsWith 0 = .ok (.iconst 0, 1) := by decide +kernel
theorem dX4_refsWith_1 : decode cX4_refsWith 1 = .ok (.istore_n 3, 1) := by decide +kernel
theorem dX4_refsWith_2 : decode cX4_refsWith 2 = .ok (.iconst 0, 1) := by decide +kernel
theorem dX4_refsWith_3 : decode cX4_refsWith 3 = .ok (.istore 4, 2) := by decide +kernel
theorem dX4_refsWith_5 : decode cX4_refsWith 5 = .ok (.iload 4, 2) := by decide +kernel
theorem dX4_refsWith_7 : decode cX4_refsWith 7 = .ok (.aload_n 0, 1) := by decide +kernel
theorem dX4_refsWith_8 : decode cX4_refsWith 8 = .ok (.getfield 44, 3) := by decide +kernel
theorem dX4_refsWith_11 : decode cX4_refsWith 11 = .ok (.if_icmp .ge 51, 3) := by decide +kernel
theorem dX4_refsWith_14 : decode cX4_refsWith 14 = .ok (.aload_n 0, 1) := by decide +kernel
theorem dX4_refsWith_15 : decode cX4_refsWith 15 = .ok (.iload 4, 2) := by decide +kernel
theorem dX4_refsWith_17 : decode cX4_refsWith 17 = .ok (.iconst 0, 1) := by decide +kernel
theorem dX4_refsWith_18 : decode cX4_refsWith 18 = .ok (.invokevirtual 94, 3) := by decide +kernel
theorem dX4_refsWith_21 : decode cX4_refsWith 21 = .ok (.iload_n 1, 1) := by decide +kernel
theorem dX4_refsWith_22 : decode cX4_refsWith 22 = .ok (.if_icmp .ne 34, 3) := by decide +kernel
theorem dX4_refsWith_25 : decode cX4_refsWith 25 = .ok (.aload_n 0, 1) := by decide +kernel
theorem dX4_refsWith_26 : decode cX4_refsWith 26 = .ok (.iload 4, 2) := by decide +kernel
theorem dX4_refsWith_28 : decode cX4_refsWith 28 = .ok (.bipush 7, 2) := by decide +kernel
theorem dX4_refsWith_30 : decode cX4_refsWith 30 = .ok (.invokevirtual 94, 3) := by decide +kernel
theorem dX4_refsWith_33 : decode cX4_refsWith 33 = .ok (.iload_n 2, 1) := by decide +kernel
theorem dX4_refsWith_34 : decode cX4_refsWith 34 = .ok (.if_icmp .eq 15, 3) := by decide +kernel
theorem dX4_refsWith_37 : decode cX4_refsWith 37 = .ok (.aload_n 0, 1) := by decide +kernel
theorem dX4_refsWith_38 : decode cX4_refsWith 38 = .ok (.iload 4, 2) := by decide +kernel
theorem dX4_refsWith_40 : decode cX4_refsWith 40 = .ok (.bipush 8, 2) := by decide +kernel
theorem dX4_refsWith_42 : decode cX4_refsWith 42 = .ok (.invokevirtual 94, 3) := by decide +kernel
theorem dX4_refsWith_45 : decode cX4_refsWith 45 = .ok (.iload_n 2, 1) := by decide +kernel
theorem dX4_refsWith_46 : decode cX4_refsWith 46 = .ok (.if_icmp .ne 10, 3) := by decide +kernel
theorem dX4_refsWith_49 : decode cX4_refsWith 49 = .ok (.iload_n 3, 1) := by decide +kernel
theorem dX4_refsWith_50 : decode cX4_refsWith 50 = .ok (.iconst 1, 1) := by decide +kernel
theorem dX4_refsWith_51 : decode cX4_refsWith 51 = .ok (.iload 4, 2) := by decide +kernel
theorem dX4_refsWith_53 : decode cX4_refsWith 53 = .ok (.ishl, 1) := by decide +kernel
theorem dX4_refsWith_54 : decode cX4_refsWith 54 = .ok (.ior, 1) := by decide +kernel
theorem dX4_refsWith_55 : decode cX4_refsWith 55 = .ok (.istore_n 3, 1) := by decide +kernel
theorem dX4_refsWith_56 : decode cX4_refsWith 56 = .ok (.iinc 4 1, 3) := by decide +kernel
theorem dX4_refsWith_59 : decode cX4_refsWith 59 = .ok (.goto (-54), 3) := by decide +kernel
theorem dX4_refsWith_62 : decode cX4_refsWith 62 = .ok (.iload_n 3, 1) := by decide +kernel
theorem dX4_refsWith_63 : decode cX4_refsWith 63 = .ok (.ireturn, 1) := by decide +kernel
abbrev M_X4_refsWith : mM := (cX4_refsWith, 5, RX4, some .int, false, 2, 43, 0, 0)
theorem gX4_refsWith : cI yX4_refsWith M_X4_refsWith 2 := ⟨(wsl_58 _ (List.mem_of_getElem? (i := 18) rfl)), (wsl_58 _ (List.mem_of_getElem? (i := 19) rfl)), (wsl_1 _ (List.mem_of_getElem? (i := 19) rfl)), (wsl_58 _ (List.mem_of_getElem? (i := 20) rfl)), by decide +kernel⟩
noncomputable def fX4_refsWith_b49 (h : hH) (a0 a1 a2 l3 l4 : Int) : Option ((Int × Int) ⊕ (Int)) :=
  some (.inl (iorD l3 (ishD 1 l4), w32 (l4 + 1)))
noncomputable def fX4_refsWith_s5 (h : hH) (a0 a1 a2 : Int) : Int × Int → Option ((Int × Int) ⊕ (Int)) := fun (l3, l4) =>
  if l4 < h a0 2 then
    (fX4_refPart h a0 l4 0).bind fun r18 =>
    if r18 = a1 then
      (fX4_refPart h a0 l4 7).bind fun r30 =>
      if r30 = a2 then
        fX4_refsWith_b49 h a0 a1 a2 l3 l4
      else
        (fX4_refPart h a0 l4 8).bind fun r42 =>
        if r42 = a2 then
          fX4_refsWith_b49 h a0 a1 a2 l3 l4
        else
          some (.inl (l3, w32 (l4 + 1)))
    else
      some (.inl (l3, w32 (l4 + 1)))
  else
    some (.inr (l3))
noncomputable def fX4_refsWith (h : hH) (a0 a1 a2 : Int) : Option (Int) :=
  lpO (fX4_refsWith_s5 h a0 a1 a2) (0, 0)
section M_X4_refsWith
variable {p : Program} {l : Launch} {e : Env} {R : Room} {s : State} {m : MethodId} {args : Array Value} {below : List Frame} {meth : Method} {c : Code} {D : va_G} {G : gG} {A : Nat → Prop} {H0 : Heap} {n0 : Int} {x : Option vV × hH} {h : hH}
set_option maxRecDepth 100000 in
set_option maxHeartbeats 4000000 in
theorem oX4_refsWith_b49 {a0 a1 a2 l3 l4 : Int} {K : (Int × Int) ⊕ (Int) → Prop} (k0 : ∀ r, K (.inr (r)) → x = (some (0, r), h)) (k1 : ∀ (l3 : Int) (l4 : Int), K (.inl (l3, l4)) → Wq p l e R s m args below meth c D G A H0 true n0 M_X4_refsWith x 0 0 5 [(0, (14, a0)), (1, (0, a1)), (2, (0, a2)), (3, (0, l3)), (4, (0, l4))] [] h) {r : (Int × Int) ⊕ (Int)} (hr : fX4_refsWith_b49 h a0 a1 a2 l3 l4 = some r) (hk : K r) : Wq p l e R s m args below meth c D G A H0 true n0 M_X4_refsWith x 0 0 49 [(0, (14, a0)), (1, (0, a1)), (2, (0, a2)), (3, (0, l3)), (4, (0, l4))] [] h := by
  unfold fX4_refsWith_b49 at hr
  refine r_iload_n dX4_refsWith_49 rfl 3 rfl (Or.inl rfl) ?_
  refine r_iconst dX4_refsWith_50 (by decide) ?_
  refine r_iload dX4_refsWith_51 4 rfl (Or.inl rfl) ?_
  refine r_ishl dX4_refsWith_53 ?_
  refine r_ior dX4_refsWith_54 ?_
  refine r_istore_n dX4_refsWith_55 rfl (Or.inl rfl) (by decide) (lv' := [(3, (0, iorD l3 (ishD 1 l4))), (0, (14, a0)), (1, (0, a1)), (2, (0, a2)), (4, (0, l4))]) rfl ?_
  refine r_iinc (k := 4) (v := l4) dX4_refsWith_56 rfl (by decide) (lv' := [(4, (0, w32 (l4 + 1))), (3, (0, iorD l3 (ishD 1 l4))), (0, (14, a0)), (1, (0, a1)), (2, (0, a2))]) rfl ?_
  refine r_goto dX4_refsWith_59 (tgt := 5) (by decide) ?_
  refine r_sub [2, 3, 4, 1, 0] (lv' := [(0, (14, a0)), (1, (0, a1)), (2, (0, a2)), (3, (0, iorD l3 (ishD 1 l4))), (4, (0, w32 (l4 + 1)))]) rfl ?_
  obtain rfl := Option.some.inj hr
  exact k1 _ _ hk
set_option maxRecDepth 100000 in
set_option maxHeartbeats 4000000 in
theorem oX4_refsWith_s5 {a0 a1 a2 l3 l4 : Int} {K : (Int × Int) ⊕ (Int) → Prop} (k0 : ∀ r, K (.inr (r)) → x = (some (0, r), h)) (k1 : ∀ (l3 : Int) (l4 : Int), K (.inl (l3, l4)) → Wq p l e R s m args below meth c D G A H0 true n0 M_X4_refsWith x 0 0 5 [(0, (14, a0)), (1, (0, a1)), (2, (0, a2)), (3, (0, l3)), (4, (0, l4))] [] h) {r : (Int × Int) ⊕ (Int)} (hr : fX4_refsWith_s5 h a0 a1 a2 (l3, l4) = some r) (hk : K r) : Wq p l e R s m args below meth c D G A H0 true n0 M_X4_refsWith x 0 0 5 [(0, (14, a0)), (1, (0, a1)), (2, (0, a2)), (3, (0, l3)), (4, (0, l4))] [] h := by
  unfold fX4_refsWith_s5 at hr
  refine r_iload dX4_refsWith_5 4 rfl (Or.inl rfl) ?_
  refine r_aload_n dX4_refsWith_7 rfl 0 rfl (nl rfl) ?_
  refine r_get 4 2 (o := a0) (w := (0, h a0 2)) (T := TX4) (ref := "FollowingRefs$Schema") rfl (by decide) rfl (by decide) inlX4 (wsl_11 _ (List.mem_of_getElem? (i := 21) rfl)) rfl dX4_refsWith_8 rfl ?_
  refine r_icmp_ge dX4_refsWith_11 (tgt := 62) (by decide) (fun hc => ?_) (fun hc => ?_)
  · have hr := ifn hr hc
    refine r_iload_n dX4_refsWith_62 rfl 3 rfl (Or.inl rfl) ?_
    obtain rfl := Option.some.inj hr
    exact r_ret dX4_refsWith_63 rfl (Or.inl ⟨rfl, rfl⟩) (k0 _ hk) ⟨rfl, rfl⟩
  · have hr := ifp hr hc
    refine r_aload_n dX4_refsWith_14 rfl 0 rfl (nl rfl) ?_
    refine r_iload dX4_refsWith_15 4 rfl (Or.inl rfl) ?_
    refine r_iconst dX4_refsWith_17 (by decide) ?_
    obtain ⟨r18, hg18, hr⟩ := bnd hr
    refine k_V (ci := 4) (o := a0) (T := TX4) (as := [(0, l4), (0, 0)]) (rest := []) (X := (some (0, r18), h)) (oX4_refPart hg18) gX4_refPart rfl (by decide) rfl (wsl_57 _ (List.mem_of_getElem? (i := 14) rfl)) rfl dX4_refsWith_18 rfl ?_
    refine r_iload_n dX4_refsWith_21 rfl 1 rfl (Or.inl rfl) ?_
    refine r_icmp_ne dX4_refsWith_22 (tgt := 56) (by decide) (fun hc => ?_) (fun hc => ?_)
    · have hr := ifn hr hc
      refine r_iinc (k := 4) (v := l4) dX4_refsWith_56 rfl (by decide) (lv' := [(4, (0, w32 (l4 + 1))), (0, (14, a0)), (1, (0, a1)), (2, (0, a2)), (3, (0, l3))]) rfl ?_
      refine r_goto dX4_refsWith_59 (tgt := 5) (by decide) ?_
      refine r_sub [1, 2, 3, 4, 0] (lv' := [(0, (14, a0)), (1, (0, a1)), (2, (0, a2)), (3, (0, l3)), (4, (0, w32 (l4 + 1)))]) rfl ?_
      obtain rfl := Option.some.inj hr
      exact k1 _ _ hk
    · have hr := ifp hr hc
      refine r_aload_n dX4_refsWith_25 rfl 0 rfl (nl rfl) ?_
      refine r_iload dX4_refsWith_26 4 rfl (Or.inl rfl) ?_
      refine r_bipush dX4_refsWith_28 (by decide) (by decide) ?_
      obtain ⟨r30, hg30, hr⟩ := bnd hr
      refine k_V (ci := 4) (o := a0) (T := TX4) (as := [(0, l4), (0, 7)]) (rest := []) (X := (some (0, r30), h)) (oX4_refPart hg30) gX4_refPart rfl (by decide) rfl (wsl_57 _ (List.mem_of_getElem? (i := 14) rfl)) rfl dX4_refsWith_30 rfl ?_
      refine r_iload_n dX4_refsWith_33 rfl 2 rfl (Or.inl rfl) ?_
      refine r_icmp_eq dX4_refsWith_34 (tgt := 49) (by decide) (fun hc => ?_) (fun hc => ?_)
      · have hr := ifp hr hc
        exact oX4_refsWith_b49 (K := K) (fun r z => k0 r z) (fun _ _ z => k1 _ _ z) hr hk
      · have hr := ifn hr hc
        refine r_aload_n dX4_refsWith_37 rfl 0 rfl (nl rfl) ?_
        refine r_iload dX4_refsWith_38 4 rfl (Or.inl rfl) ?_
        refine r_bipush dX4_refsWith_40 (by decide) (by decide) ?_
        obtain ⟨r42, hg42, hr⟩ := bnd hr
        refine k_V (ci := 4) (o := a0) (T := TX4) (as := [(0, l4), (0, 8)]) (rest := []) (X := (some (0, r42), h)) (oX4_refPart hg42) gX4_refPart rfl (by decide) rfl (wsl_57 _ (List.mem_of_getElem? (i := 14) rfl)) rfl dX4_refsWith_42 rfl ?_
        refine r_iload_n dX4_refsWith_45 rfl 2 rfl (Or.inl rfl) ?_
        refine r_icmp_ne dX4_refsWith_46 (tgt := 56) (by decide) (fun hc => ?_) (fun hc => ?_)
        · have hr := ifn hr hc
          refine r_iinc (k := 4) (v := l4) dX4_refsWith_56 rfl (by decide) (lv' := [(4, (0, w32 (l4 + 1))), (0, (14, a0)), (1, (0, a1)), (2, (0, a2)), (3, (0, l3))]) rfl ?_
          refine r_goto dX4_refsWith_59 (tgt := 5) (by decide) ?_
          refine r_sub [1, 2, 3, 4, 0] (lv' := [(0, (14, a0)), (1, (0, a1)), (2, (0, a2)), (3, (0, l3)), (4, (0, w32 (l4 + 1)))]) rfl ?_
          obtain rfl := Option.some.inj hr
          exact k1 _ _ hk
        · have hr := ifp hr hc
          exact oX4_refsWith_b49 (K := K) (fun r z => k0 r z) (fun _ _ z => k1 _ _ z) hr hk
set_option maxRecDepth 100000 in
set_option maxHeartbeats 4000000 in
theorem oX4_refsWith_b0 {a0 a1 a2 : Int} {K : Int → Prop} (k0 : ∀ r, K (r) → x = (some (0, r), h)) {r : Int} (hr : fX4_refsWith h a0 a1 a2 = some r) (hk : K r) : Wq p l e R s m args below meth c D G A H0 true n0 M_X4_refsWith x 0 0 0 [(0, (14, a0)), (1, (0, a1)), (2, (0, a2))] [] h := by
  unfold fX4_refsWith at hr
  refine r_iconst dX4_refsWith_0 (by decide) ?_
  refine r_istore_n dX4_refsWith_1 rfl (Or.inl rfl) (by decide) (lv' := [(3, (0, 0)), (0, (14, a0)), (1, (0, a1)), (2, (0, a2))]) rfl ?_
  refine r_iconst dX4_refsWith_2 (by decide) ?_
  refine r_istore dX4_refsWith_3 (Or.inl rfl) (by decide) (lv' := [(4, (0, 0)), (3, (0, 0)), (0, (14, a0)), (1, (0, a1)), (2, (0, a2))]) rfl ?_
  refine r_sub [2, 3, 4, 1, 0] (lv' := [(0, (14, a0)), (1, (0, a1)), (2, (0, a2)), (3, (0, 0)), (4, (0, 0))]) rfl ?_
  exact lp_ok (w := fun (q : Int × Int) => Wq p l e R s m args below meth c D G A H0 true n0 M_X4_refsWith x 0 0 5 [(0, (14, a0)), (1, (0, a1)), (2, (0, a2)), (3, (0, q.1)), (4, (0, q.2))] [] (h)) (K := K) (fun ⟨q0, q1⟩ r h1 h2 => oX4_refsWith_s5 (K := Sum.elim (fun (q : Int × Int) => Wq p l e R s m args below meth c D G A H0 true n0 M_X4_refsWith x 0 0 5 [(0, (14, a0)), (1, (0, a1)), (2, (0, a2)), (3, (0, q.1)), (4, (0, q.2))] [] (h)) (K)) (fun r z => k0 r z) (fun _ _ z => z) h1 h2) hr hk
end M_X4_refsWith
theorem oX4_refsWith {l : Launch} {D : va_G} {G : gG} {h : hH} {a0 a1 a2 : Int} {r : Int} (hr : fX4_refsWith h a0 a1 a2 = some r) : Ctr l D G true yX4_refsWith M_X4_refsWith [(14, a0), (0, a1), (0, a2)] h (some (0, r), h) :=
  Ctr_of (by decide) rfl (fun z => by cases z) (nl rfl) (fun {p e R s m args below meth c A H0} => by
    exact oX4_refsWith_b0 (K := fun z9 => z9 = r) (fun r9 z => by rw [z]) hr rfl)
/-! X4_refsBy -/
theorem dX4_refsBy_0 : decode cX4_refsBy 0 = .ok (.iconst 0, 1) := by decide +kernel
theorem dX4_refsBy_1 : decode cX4_refsBy 1 = .ok (.istore_n 3, 1) := by decide +kernel
theorem dX4_refsBy_2 : decode cX4_refsBy 2 = .ok (.iconst 0, 1) := by decide +kernel
theorem dX4_refsBy_3 : decode cX4_refsBy 3 = .ok (.istore 4, 2) := by decide +kernel
theorem dX4_refsBy_5 : decode cX4_refsBy 5 = .ok (.iload 4, 2) := by decide +kernel
theorem dX4_refsBy_7 : decode cX4_refsBy 7 = .ok (.aload_n 0, 1) := by decide +kernel
theorem dX4_refsBy_8 : decode cX4_refsBy 8 = .ok (.getfield 44, 3) := by decide +kernel
theorem dX4_refsBy_11 : decode cX4_refsBy 11 = .ok (.if_icmp .ge 27, 3) := by decide +kernel
theorem dX4_refsBy_14 : decode cX4_refsBy 14 = .ok (.aload_n 0, 1) := by decide +kernel
theorem dX4_refsBy_15 : decode cX4_refsBy 15 = .ok (.iload 4, 2) := by decide +kernel
theorem dX4_refsBy_17 : decode cX4_refsBy 17 = .ok (.iload_n 1, 1) := by decide +kernel
theorem dX4_refsBy_18 : decode cX4_refsBy 18 = .ok (.invokevirtual 94, 3) := by decide +kernel
theorem dX4_refsBy_21 : decode cX4_refsBy 21 = .ok (.iload_n 2, 1) := by decide +kernel
theorem dX4_refsBy_22 : decode cX4_refsBy 22 = .ok (.if_icmp .ne 10, 3) := by decide +kernel
theorem dX4_refsBy_25 : decode cX4_refsBy 25 = .ok (.iload_n 3, 1) := by decide +kernel
theorem dX4_refsBy_26 : decode cX4_refsBy 26 = .ok (.iconst 1, 1) := by decide +kernel
theorem dX4_refsBy_27 : decode cX4_refsBy 27 = .ok (.iload 4, 2) := by decide +kernel
theorem dX4_refsBy_29 : decode cX4_refsBy 29 = .ok (.ishl, 1) := by decide +kernel
theorem dX4_refsBy_30 : decode cX4_refsBy 30 = .ok (.ior, 1) := by decide +kernel
theorem dX4_refsBy_31 : decode cX4_refsBy 31 = .ok (.istore_n 3, 1) := by decide +kernel
theorem dX4_refsBy_32 : decode cX4_refsBy 32 = .ok (.iinc 4 1, 3) := by decide +kernel
theorem dX4_refsBy_35 : decode cX4_refsBy 35 = .ok (.goto (-30), 3) := by decide +kernel
theorem dX4_refsBy_38 : decode cX4_refsBy 38 = .ok (.iload_n 3, 1) := by decide +kernel
theorem dX4_refsBy_39 : decode cX4_refsBy 39 = .ok (.ireturn, 1) := by decide +kernel
abbrev M_X4_refsBy : mM := (cX4_refsBy, 5, RX4, some .int, false, 2, 43, 0, 0)
theorem gX4_refsBy : cI yX4_refsBy M_X4_refsBy 2 := ⟨(wsl_57 _ (List.mem_of_getElem? (i := 11) rfl)), (wsl_57 _ (List.mem_of_getElem? (i := 12) rfl)), (wsl_1 _ (List.mem_of_getElem? (i := 19) rfl)), (wsl_57 _ (List.mem_of_getElem? (i := 13) rfl)), by decide +kernel⟩
noncomputable def fX4_refsBy_s5 (h : hH) (a0 a1 a2 : Int) : Int × Int → Option ((Int × Int) ⊕ (Int)) := fun (l3, l4) =>
  if l4 < h a0 2 then
    (fX4_refPart h a0 l4 a1).bind fun r18 =>
    if r18 = a2 then
      some (.inl (iorD l3 (ishD 1 l4), w32 (l4 + 1)))
    else
      some (.inl (l3, w32 (l4 + 1)))
  else
    some (.inr (l3))
noncomputable def fX4_refsBy (h : hH) (a0 a1 a2 : Int) : Option (Int) :=
  lpO (fX4_refsBy_s5 h a0 a1 a2) (0, 0)
section M_X4_refsBy
variable {p : Program} {l : Launch} {e : Env} {R : Room} {s : State} {m : MethodId} {args : Array Value} {below : List Frame} {meth : Method} {c : Code} {D : va_G} {G : gG} {A : Nat → Prop} {H0 : Heap} {n0 : Int} {x : Option vV × hH} {h : hH}
set_option maxRecDepth 100000 in
set_option maxHeartbeats 4000000 in
theorem oX4_refsBy_s5 {a0 a1 a2 l3 l4 : Int} {K : (Int × Int) ⊕ (Int) → Prop} (k0 : ∀ r, K (.inr (r)) → x = (some (0, r), h)) (k1 : ∀ (l3 : Int) (l4 : Int), K (.inl (l3, l4)) → Wq p l e R s m args below meth c D G A H0 true n0 M_X4_refsBy x 0 0 5 [(0, (14, a0)), (1, (0, a1)), (2, (0, a2)), (3, (0, l3)), (4, (0, l4))] [] h) {r : (Int × Int) ⊕ (Int)} (hr : fX4_refsBy_s5 h a0 a1 a2 (l3, l4) = some r) (hk : K r) : Wq p l e R s m args below meth c D G A H0 true n0 M_X4_refsBy x 0 0 5 [(0, (14, a0)), (1, (0, a1)), (2, (0, a2)), (3, (0, l3)), (4, (0, l4))] [] h := by
  unfold fX4_refsBy_s5 at hr
  refine r_iload dX4_refsBy_5 4 rfl (Or.inl rfl) ?_
  refine r_aload_n dX4_refsBy_7 rfl 0 rfl (nl rfl) ?_
  refine r_get 4 2 (o := a0) (w := (0, h a0 2)) (T := TX4) (ref := "FollowingRefs$Schema") rfl (by decide) rfl (by decide) inlX4 (wsl_11 _ (List.mem_of_getElem? (i := 21) rfl)) rfl dX4_refsBy_8 rfl ?_
  refine r_icmp_ge dX4_refsBy_11 (tgt := 38) (by decide) (fun hc => ?_) (fun hc => ?_)
  · have hr := ifn hr hc
    refine r_iload_n dX4_refsBy_38 rfl 3 rfl (Or.inl rfl) ?_
    obtain rfl := Option.some.inj hr
    exact r_ret dX4_refsBy_39 rfl (Or.inl ⟨rfl, rfl⟩) (k0 _ hk) ⟨rfl, rfl⟩
  · have hr := ifp hr hc
    refine r_aload_n dX4_refsBy_14 rfl 0 rfl (nl rfl) ?_
    refine r_iload dX4_refsBy_15 4 rfl (Or.inl rfl) ?_
    refine r_iload_n dX4_refsBy_17 rfl 1 rfl (Or.inl rfl) ?_
    obtain ⟨r18, hg18, hr⟩ := bnd hr
    refine k_V (ci := 4) (o := a0) (T := TX4) (as := [(0, l4), (0, a1)]) (rest := []) (X := (some (0, r18), h)) (oX4_refPart hg18) gX4_refPart rfl (by decide) rfl (wsl_57 _ (List.mem_of_getElem? (i := 14) rfl)) rfl dX4_refsBy_18 rfl ?_
    refine r_iload_n dX4_refsBy_21 rfl 2 rfl (Or.inl rfl) ?_
    refine r_icmp_ne dX4_refsBy_22 (tgt := 32) (by decide) (fun hc => ?_) (fun hc => ?_)
    · have hr := ifn hr hc
      refine r_iinc (k := 4) (v := l4) dX4_refsBy_32 rfl (by decide) (lv' := [(4, (0, w32 (l4 + 1))), (0, (14, a0)), (1, (0, a1)), (2, (0, a2)), (3, (0, l3))]) rfl ?_
      refine r_goto dX4_refsBy_35 (tgt := 5) (by decide) ?_
      refine r_sub [1, 2, 3, 4, 0] (lv' := [(0, (14, a0)), (1, (0, a1)), (2, (0, a2)), (3, (0, l3)), (4, (0, w32 (l4 + 1)))]) rfl ?_
      obtain rfl := Option.some.inj hr
      exact k1 _ _ hk
    · have hr := ifp hr hc
      refine r_iload_n dX4_refsBy_25 rfl 3 rfl (Or.inl rfl) ?_
      refine r_iconst dX4_refsBy_26 (by decide) ?_
      refine r_iload dX4_refsBy_27 4 rfl (Or.inl rfl) ?_
      refine r_ishl dX4_refsBy_29 ?_
      refine r_ior dX4_refsBy_30 ?_
      refine r_istore_n dX4_refsBy_31 rfl (Or.inl rfl) (by decide) (lv' := [(3, (0, iorD l3 (ishD 1 l4))), (0, (14, a0)), (1, (0, a1)), (2, (0, a2)), (4, (0, l4))]) rfl ?_
      refine r_iinc (k := 4) (v := l4) dX4_refsBy_32 rfl (by decide) (lv' := [(4, (0, w32 (l4 + 1))), (3, (0, iorD l3 (ishD 1 l4))), (0, (14, a0)), (1, (0, a1)), (2, (0, a2))]) rfl ?_
      refine r_goto dX4_refsBy_35 (tgt := 5) (by decide) ?_
      refine r_sub [2, 3, 4, 1, 0] (lv' := [(0, (14, a0)), (1, (0, a1)), (2, (0, a2)), (3, (0, iorD l3 (ishD 1 l4))), (4, (0, w32 (l4 + 1)))]) rfl ?_
      obtain rfl := Option.some.inj hr
      exact k1 _ _ hk
set_option maxRecDepth 100000 in
set_option maxHeartbeats 4000000 in
theorem oX4_refsBy_b0 {a0 a1 a2 : Int} {K : Int → Prop} (k0 : ∀ r, K (r) → x = (some (0, r), h)) {r : Int} (hr : fX4_refsBy h a0 a1 a2 = some r) (hk : K r) : Wq p l e R s m args below meth c D G A H0 true n0 M_X4_refsBy x 0 0 0 [(0, (14, a0)), (1, (0, a1)), (2, (0, a2))] [] h := by
  unfold fX4_refsBy at hr
  refine r_iconst dX4_refsBy_0 (by decide) ?_
  refine r_istore_n dX4_refsBy_1 rfl (Or.inl rfl) (by decide) (lv' := [(3, (0, 0)), (0, (14, a0)), (1, (0, a1)), (2, (0, a2))]) rfl ?_
  refine r_iconst dX4_refsBy_2 (by decide) ?_
  refine r_istore dX4_refsBy_3 (Or.inl rfl) (by decide) (lv' := [(4, (0, 0)), (3, (0, 0)), (0, (14, a0)), (1, (0, a1)), (2, (0, a2))]) rfl ?_
  refine r_sub [2, 3, 4, 1, 0] (lv' := [(0, (14, a0)), (1, (0, a1)), (2, (0, a2)), (3, (0, 0)), (4, (0, 0))]) rfl ?_
  exact lp_ok (w := fun (q : Int × Int) => Wq p l e R s m args below meth c D G A H0 true n0 M_X4_refsBy x 0 0 5 [(0, (14, a0)), (1, (0, a1)), (2, (0, a2)), (3, (0, q.1)), (4, (0, q.2))] [] (h)) (K := K) (fun ⟨q0, q1⟩ r h1 h2 => oX4_refsBy_s5 (K := Sum.elim (fun (q : Int × Int) => Wq p l e R s m args below meth c D G A H0 true n0 M_X4_refsBy x 0 0 5 [(0, (14, a0)), (1, (0, a1)), (2, (0, a2)), (3, (0, q.1)), (4, (0, q.2))] [] (h)) (K)) (fun r z => k0 r z) (fun _ _ z => z) h1 h2) hr hk
end M_X4_refsBy
theorem oX4_refsBy {l : Launch} {D : va_G} {G : gG} {h : hH} {a0 a1 a2 : Int} {r : Int} (hr : fX4_refsBy h a0 a1 a2 = some r) : Ctr l D G true yX4_refsBy M_X4_refsBy [(14, a0), (0, a1), (0, a2)] h (some (0, r), h) :=
  Ctr_of (by decide) rfl (fun z => by cases z) (nl rfl) (fun {p e R s m args below meth c A H0} => by
    exact oX4_refsBy_b0 (K := fun z9 => z9 = r) (fun r9 z => by rw [z]) hr rfl)
/-! X4_perils -/
theorem dX4_perils_0 : decode cX4_perils 0 = .ok (.iconst 0, 1) := by decide +kernel
theorem dX4_perils_1 : decode cX4_perils 1 = .ok (.istore_n 2, 1) := by decide +kernel
theorem dX4_perils_2 : decode cX4_perils 2 = .ok (.iconst 0, 1) := by decide +kernel
theorem dX4_perils_3 : decode cX4_perils 3 = .ok (.istore_n 3, 1) := by decide +kernel
theorem dX4_perils_4 : decode cX4_perils 4 = .ok (.iload_n 3, 1) := by decide +kernel
theorem dX4_perils_5 : decode cX4_perils 5 = .ok (.iconst 4, 1) := by decide +kernel
theorem dX4_perils_6 : decode cX4_perils 6 = .ok (.if_icmp .ge 75, 3) := by decide +kernel
theorem dX4_perils_9 : decode cX4_perils 9 = .ok (.iconst 0, 1) := by decide +kernel
theorem dX4_perils_10 : decode cX4_perils 10 = .ok (.istore 4, 2) := by decide +kernel
theorem dX4_perils_12 : decode cX4_perils 12 = .ok (.iload 4, 2) := by decide +kernel
theorem dX4_perils_14 : decode cX4_perils 14 = .ok (.aload_n 0, 1) := by decide +kernel
theorem dX4_perils_15 : decode cX4_perils 15 = .ok (.getfield 44, 3) := by decide +kernel
theorem dX4_perils_18 : decode cX4_perils 18 = .ok (.if_icmp .ge 57, 3) := by decide +kernel
theorem dX4_perils_21 : decode cX4_perils 21 = .ok (.aload_n 0, 1) := by decide +kernel
theorem dX4_perils_22 : decode cX4_perils 22 = .ok (.iload 4, 2) := by decide +kernel
theorem dX4_perils_24 : decode cX4_perils 24 = .ok (.iconst 1, 1) := by decide +kernel
theorem dX4_perils_25 : decode cX4_perils 25 = .ok (.invokevirtual 94, 3) := by decide +kernel
theorem dX4_perils_28 : decode cX4_perils 28 = .ok (.istore 5, 2) := by decide +kernel
theorem dX4_perils_30 : decode cX4_perils 30 = .ok (.aload_n 0, 1) := by decide +kernel
theorem dX4_perils_31 : decode cX4_perils 31 = .ok (.iload 4, 2) := by decide +kernel
theorem dX4_perils_33 : decode cX4_perils 33 = .ok (.iconst 3, 1) := by decide +kernel
theorem dX4_perils_34 : decode cX4_perils 34 = .ok (.invokevirtual 94, 3) := by decide +kernel
theorem dX4_perils_37 : decode cX4_perils 37 = .ok (.iconst 1, 1) := by decide +kernel
theorem dX4_perils_38 : decode cX4_perils 38 = .ok (.if_icmp .ne 31, 3) := by decide +kernel
theorem dX4_perils_41 : decode cX4_perils 41 = .ok (.iload 5, 2) := by decide +kernel
theorem dX4_perils_43 : decode cX4_perils 43 = .ok (.iload_n 1, 1) := by decide +kernel
theorem dX4_perils_44 : decode cX4_perils 44 = .ok (.if_icmp .eq 13, 3) := by decide +kernel
theorem dX4_perils_47 : decode cX4_perils 47 = .ok (.iload_n 2, 1) := by decide +kernel
theorem dX4_perils_48 : decode cX4_perils 48 = .ok (.iload 5, 2) := by decide +kernel
theorem dX4_perils_50 : decode cX4_perils 50 = .ok (.iushr, 1) := by decide +kernel
theorem dX4_perils_51 : decode cX4_perils 51 = .ok (.iconst 1, 1) := by decide +kernel
theorem dX4_perils_52 : decode cX4_perils 52 = .ok (.iand, 1) := by decide +kernel
theorem dX4_perils_53 : decode cX4_perils 53 = .ok (.iconst 1, 1) := by decide +kernel
theorem dX4_perils_54 : decode cX4_perils 54 = .ok (.if_icmp .ne 15, 3) := by decide +kernel
theorem dX4_perils_57 : decode cX4_perils 57 = .ok (.iload_n 2, 1) := by decide +kernel
theorem dX4_perils_58 : decode cX4_perils 58 = .ok (.iconst 1, 1) := by decide +kernel
theorem dX4_perils_59 : decode cX4_perils 59 = .ok (.aload_n 0, 1) := by decide +kernel
theorem dX4_perils_60 : decode cX4_perils 60 = .ok (.iload 4, 2) := by decide +kernel
theorem dX4_perils_62 : decode cX4_perils 62 = .ok (.iconst 0, 1) := by decide +kernel
theorem dX4_perils_63 : decode cX4_perils 63 = .ok (.invokevirtual 94, 3) := by decide +kernel
theorem dX4_perils_66 : decode cX4_perils 66 = .ok (.ishl, 1) := by decide +kernel
theorem dX4_perils_67 : decode cX4_perils 67 = .ok (.ior, 1) := by decide +kernel
theorem dX4_perils_68 : decode cX4_perils 68 = .ok (.istore_n 2, 1) := by decide +kernel
theorem dX4_perils_69 : decode cX4_perils 69 = .ok (.iinc 4 1, 3) := by decide +kernel
theorem dX4_perils_72 : decode cX4_perils 72 = .ok (.goto (-60), 3) := by decide +kernel
theorem dX4_perils_75 : decode cX4_perils 75 = .ok (.iinc 3 1, 3) := by decide +kernel
theorem dX4_perils_78 : decode cX4_perils 78 = .ok (.goto (-74), 3) := by decide +kernel
theorem dX4_perils_81 : decode cX4_perils 81 = .ok (.iload_n 2, 1) := by decide +kernel
theorem dX4_perils_82 : decode cX4_perils 82 = .ok (.ireturn, 1) := by decide +kernel
abbrev M_X4_perils : mM := (cX4_perils, 6, RX4, some .int, false, 2, 43, 0, 0)
theorem gX4_perils : cI yX4_perils M_X4_perils 1 := ⟨(wsl_57 _ (List.mem_of_getElem? (i := 16) rfl)), (wsl_57 _ (List.mem_of_getElem? (i := 17) rfl)), (wsl_1 _ (List.mem_of_getElem? (i := 19) rfl)), (wsl_57 _ (List.mem_of_getElem? (i := 18) rfl)), by decide +kernel⟩
noncomputable def fX4_perils_b57 (h : hH) (a0 a1 l2 l3 l4 : Int) : Option ((Int × Int) ⊕ ((Int × Int) ⊕ (Int))) :=
  (fX4_refPart h a0 l4 0).bind fun r63 =>
  some (.inl (iorD l2 (ishD 1 r63), w32 (l4 + 1)))
noncomputable def fX4_perils_s12 (h : hH) (a0 a1 l3 : Int) : Int × Int → Option ((Int × Int) ⊕ ((Int × Int) ⊕ (Int))) := fun (l2, l4) =>
  if l4 < h a0 2 then
    (fX4_refPart h a0 l4 1).bind fun r25 =>
    (fX4_refPart h a0 l4 3).bind fun r34 =>
    if r34 = 1 then
      if r25 = a1 then
        fX4_perils_b57 h a0 a1 l2 l3 l4
      else
        if iadD (iusD l2 r25) 1 = 1 then
          fX4_perils_b57 h a0 a1 l2 l3 l4
        else
          some (.inl (l2, w32 (l4 + 1)))
    else
      some (.inl (l2, w32 (l4 + 1)))
  else
    some (.inr (.inl (l2, w32 (l3 + 1))))
noncomputable def fX4_perils_s4 (h : hH) (a0 a1 : Int) : Int × Int → Option ((Int × Int) ⊕ (Int)) := fun (l2, l3) =>
  if l3 < 4 then
    lpO (fX4_perils_s12 h a0 a1 l3) (l2, 0)
  else
    some (.inr (l2))
noncomputable def fX4_perils (h : hH) (a0 a1 : Int) : Option (Int) :=
  lpO (fX4_perils_s4 h a0 a1) (0, 0)
section M_X4_perils
variable {p : Program} {l : Launch} {e : Env} {R : Room} {s : State} {m : MethodId} {args : Array Value} {below : List Frame} {meth : Method} {c : Code} {D : va_G} {G : gG} {A : Nat → Prop} {H0 : Heap} {n0 : Int} {x : Option vV × hH} {h : hH}
set_option maxRecDepth 100000 in
set_option maxHeartbeats 4000000 in
theorem oX4_perils_b57 {a0 a1 l2 l3 l4 : Int} {K : (Int × Int) ⊕ ((Int × Int) ⊕ (Int)) → Prop} (k0 : ∀ r, K (.inr (.inr (r))) → x = (some (0, r), h)) (k1 : ∀ (l2 : Int) (l3 : Int), K (.inr (.inl (l2, l3))) → Wq p l e R s m args below meth c D G A H0 true n0 M_X4_perils x 0 0 4 [(0, (14, a0)), (1, (0, a1)), (2, (0, l2)), (3, (0, l3))] [] h) (k2 : ∀ (l2 : Int) (l4 : Int), K (.inl (l2, l4)) → Wq p l e R s m args below meth c D G A H0 true n0 M_X4_perils x 0 0 12 [(0, (14, a0)), (1, (0, a1)), (2, (0, l2)), (3, (0, l3)), (4, (0, l4))] [] h) {r : (Int × Int) ⊕ ((Int × Int) ⊕ (Int))} (hr : fX4_perils_b57 h a0 a1 l2 l3 l4 = some r) (hk : K r) : Wq p l e R s m args below meth c D G A H0 true n0 M_X4_perils x 0 0 57 [(0, (14, a0)), (1, (0, a1)), (2, (0, l2)), (3, (0, l3)), (4, (0, l4))] [] h := by
  unfold fX4_perils_b57 at hr
  refine r_iload_n dX4_perils_57 rfl 2 rfl (Or.inl rfl) ?_
  refine r_iconst dX4_perils_58 (by decide) ?_
  refine r_aload_n dX4_perils_59 rfl 0 rfl (nl rfl) ?_
  refine r_iload dX4_perils_60 4 rfl (Or.inl rfl) ?_
  refine r_iconst dX4_perils_62 (by decide) ?_
  obtain ⟨r63, hg63, hr⟩ := bnd hr
  refine k_V (ci := 4) (o := a0) (T := TX4) (as := [(0, l4), (0, 0)]) (rest := [(0, 1), (0, l2)]) (X := (some (0, r63), h)) (oX4_refPart hg63) gX4_refPart rfl (by decide) rfl (wsl_57 _ (List.mem_of_getElem? (i := 14) rfl)) rfl dX4_perils_63 rfl ?_
  refine r_ishl dX4_perils_66 ?_
  refine r_ior dX4_perils_67 ?_
  refine r_istore_n dX4_perils_68 rfl (Or.inl rfl) (by decide) (lv' := [(2, (0, iorD l2 (ishD 1 r63))), (0, (14, a0)), (1, (0, a1)), (3, (0, l3)), (4, (0, l4))]) rfl ?_
  refine r_iinc (k := 4) (v := l4) dX4_perils_69 rfl (by decide) (lv' := [(4, (0, w32 (l4 + 1))), (2, (0, iorD l2 (ishD 1 r63))), (0, (14, a0)), (1, (0, a1)), (3, (0, l3))]) rfl ?_
  refine r_goto dX4_perils_72 (tgt := 12) (by decide) ?_
  refine r_sub [2, 3, 1, 4, 0] (lv' := [(0, (14, a0)), (1, (0, a1)), (2, (0, iorD l2 (ishD 1 r63))), (3, (0, l3)), (4, (0, w32 (l4 + 1)))]) rfl ?_
  obtain rfl := Option.some.inj hr
  exact k2 _ _ hk
set_option maxRecDepth 100000 in
set_option maxHeartbeats 4000000 in
theorem oX4_perils_s12 {a0 a1 l3 l2 l4 : Int} {K : (Int × Int) ⊕ ((Int × Int) ⊕ (Int)) → Prop} (k0 : ∀ r, K (.inr (.inr (r))) → x = (some (0, r), h)) (k1 : ∀ (l2 : Int) (l3 : Int), K (.inr (.inl (l2, l3))) → Wq p l e R s m args below meth c D G A H0 true n0 M_X4_perils x 0 0 4 [(0, (14, a0)), (1, (0, a1)), (2, (0, l2)), (3, (0, l3))] [] h) (k2 : ∀ (l2 : Int) (l4 : Int), K (.inl (l2, l4)) → Wq p l e R s m args below meth c D G A H0 true n0 M_X4_perils x 0 0 12 [(0, (14, a0)), (1, (0, a1)), (2, (0, l2)), (3, (0, l3)), (4, (0, l4))] [] h) {r : (Int × Int) ⊕ ((Int × Int) ⊕ (Int))} (hr : fX4_perils_s12 h a0 a1 l3 (l2, l4) = some r) (hk : K r) : Wq p l e R s m args below meth c D G A H0 true n0 M_X4_perils x 0 0 12 [(0, (14, a0)), (1, (0, a1)), (2, (0, l2)), (3, (0, l3)), (4, (0, l4))] [] h := by
  unfold fX4_perils_s12 at hr
  refine r_iload dX4_perils_12 4 rfl (Or.inl rfl) ?_
  refine r_aload_n dX4_perils_14 rfl 0 rfl (nl rfl) ?_
  refine r_get 4 2 (o := a0) (w := (0, h a0 2)) (T := TX4) (ref := "FollowingRefs$Schema") rfl (by decide) rfl (by decide) inlX4 (wsl_11 _ (List.mem_of_getElem? (i := 21) rfl)) rfl dX4_perils_15 rfl ?_
  refine r_icmp_ge dX4_perils_18 (tgt := 75) (by decide) (fun hc => ?_) (fun hc => ?_)
  · have hr := ifn hr hc
    refine r_iinc (k := 3) (v := l3) dX4_perils_75 rfl (by decide) (lv' := [(3, (0, w32 (l3 + 1))), (0, (14, a0)), (1, (0, a1)), (2, (0, l2)), (4, (0, l4))]) rfl ?_
    refine r_goto dX4_perils_78 (tgt := 4) (by decide) ?_
    refine r_sub [1, 2, 3, 0] (lv' := [(0, (14, a0)), (1, (0, a1)), (2, (0, l2)), (3, (0, w32 (l3 + 1)))]) rfl ?_
    obtain rfl := Option.some.inj hr
    exact k1 _ _ hk
  · have hr := ifp hr hc
    refine r_aload_n dX4_perils_21 rfl 0 rfl (nl rfl) ?_
    refine r_iload dX4_perils_22 4 rfl (Or.inl rfl) ?_
    refine r_iconst dX4_perils_24 (by decide) ?_
    obtain ⟨r25, hg25, hr⟩ := bnd hr
    refine k_V (ci := 4) (o := a0) (T := TX4) (as := [(0, l4), (0, 1)]) (rest := []) (X := (some (0, r25), h)) (oX4_refPart hg25) gX4_refPart rfl (by decide) rfl (wsl_57 _ (List.mem_of_getElem? (i := 14) rfl)) rfl dX4_perils_25 rfl ?_
    refine r_istore dX4_perils_28 (Or.inl rfl) (by decide) (lv' := [(5, (0, r25)), (0, (14, a0)), (1, (0, a1)), (2, (0, l2)), (3, (0, l3)), (4, (0, l4))]) rfl ?_
    refine r_aload_n dX4_perils_30 rfl 1 rfl (nl rfl) ?_
    refine r_iload dX4_perils_31 5 rfl (Or.inl rfl) ?_
    refine r_iconst dX4_perils_33 (by decide) ?_
    obtain ⟨r34, hg34, hr⟩ := bnd hr
    refine k_V (ci := 4) (o := a0) (T := TX4) (as := [(0, l4), (0, 3)]) (rest := []) (X := (some (0, r34), h)) (oX4_refPart hg34) gX4_refPart rfl (by decide) rfl (wsl_57 _ (List.mem_of_getElem? (i := 14) rfl)) rfl dX4_perils_34 rfl ?_
    refine r_iconst dX4_perils_37 (by decide) ?_
    refine r_icmp_ne dX4_perils_38 (tgt := 69) (by decide) (fun hc => ?_) (fun hc => ?_)
    · have hr := ifn hr hc
      refine r_iinc (k := 5) (v := l4) dX4_perils_69 rfl (by decide) (lv' := [(4, (0, w32 (l4 + 1))), (5, (0, r25)), (0, (14, a0)), (1, (0, a1)), (2, (0, l2)), (3, (0, l3))]) rfl ?_
      refine r_goto dX4_perils_72 (tgt := 12) (by decide) ?_
      refine r_sub [2, 3, 4, 5, 0] (lv' := [(0, (14, a0)), (1, (0, a1)), (2, (0, l2)), (3, (0, l3)), (4, (0, w32 (l4 + 1)))]) rfl ?_
      obtain rfl := Option.some.inj hr
      exact k2 _ _ hk
    · have hr := ifp hr hc
      refine r_iload dX4_perils_41 0 rfl (Or.inl rfl) ?_
      refine r_iload_n dX4_perils_43 rfl 2 rfl (Or.inl rfl) ?_
      refine r_icmp_eq dX4_perils_44 (tgt := 57) (by decide) (fun hc => ?_) (fun hc => ?_)
      · have hr := ifp hr hc
        refine r_sub [1, 2, 3, 4, 5] (lv' := [(0, (14, a0)), (1, (0, a1)), (2, (0, l2)), (3, (0, l3)), (4, (0, l4))]) rfl ?_
        exact oX4_perils_b57 (K := K) (fun r z => k0 r z) (fun _ _ z => k1 _ _ z) (fun _ _ z => k2 _ _ z) hr hk
      · have hr := ifn hr hc
        refine r_iload_n dX4_perils_47 rfl 3 rfl (Or.inl rfl) ?_
        refine r_iload dX4_perils_48 0 rfl (Or.inl rfl) ?_
        refine r_iushr dX4_perils_50 ?_
        refine r_iconst dX4_perils_51 (by decide) ?_
        refine r_iand dX4_perils_52 ?_
        refine r_iconst dX4_perils_53 (by decide) ?_
        refine r_icmp_ne dX4_perils_54 (tgt := 69) (by decide) (fun hc => ?_) (fun hc => ?_)
        · have hr := ifn hr hc
          refine r_iinc (k := 5) (v := l4) dX4_perils_69 rfl (by decide) (lv' := [(4, (0, w32 (l4 + 1))), (5, (0, r25)), (0, (14, a0)), (1, (0, a1)), (2, (0, l2)), (3, (0, l3))]) rfl ?_
          refine r_goto dX4_perils_72 (tgt := 12) (by decide) ?_
          refine r_sub [2, 3, 4, 5, 0] (lv' := [(0, (14, a0)), (1, (0, a1)), (2, (0, l2)), (3, (0, l3)), (4, (0, w32 (l4 + 1)))]) rfl ?_
          obtain rfl := Option.some.inj hr
          exact k2 _ _ hk
        · have hr := ifp hr hc
          refine r_sub [1, 2, 3, 4, 5] (lv' := [(0, (14, a0)), (1, (0, a1)), (2, (0, l2)), (3, (0, l3)), (4, (0, l4))]) rfl ?_
          exact oX4_perils_b57 (K := K) (fun r z => k0 r z) (fun _ _ z => k1 _ _ z) (fun _ _ z => k2 _ _ z) hr hk
set_option maxRecDepth 100000 in
set_option maxHeartbeats 4000000 in
theorem oX4_perils_s4 {a0 a1 l2 l3 : Int} {K : (Int × Int) ⊕ (Int) → Prop} (k0 : ∀ r, K (.inr (r)) → x = (some (0, r), h)) (k1 : ∀ (l2 : Int) (l3 : Int), K (.inl (l2, l3)) → Wq p l e R s m args below meth c D G A H0 true n0 M_X4_perils x 0 0 4 [(0, (14, a0)), (1, (0, a1)), (2, (0, l2)), (3, (0, l3))] [] h) {r : (Int × Int) ⊕ (Int)} (hr : fX4_perils_s4 h a0 a1 (l2, l3) = some r) (hk : K r) : Wq p l e R s m args below meth c D G A H0 true n0 M_X4_perils x 0 0 4 [(0, (14, a0)), (1, (0, a1)), (2, (0, l2)), (3, (0, l3))] [] h := by
  unfold fX4_perils_s4 at hr
  refine r_iload_n dX4_perils_4 rfl 3 rfl (Or.inl rfl) ?_
  refine r_iconst dX4_perils_5 (by decide) ?_
  refine r_icmp_ge dX4_perils_6 (tgt := 81) (by decide) (fun hc => ?_) (fun hc => ?_)
  · have hr := ifn hr hc
    refine r_iload_n dX4_perils_81 rfl 2 rfl (Or.inl rfl) ?_
    obtain rfl := Option.some.inj hr
    exact r_ret dX4_perils_82 rfl (Or.inl ⟨rfl, rfl⟩) (k0 _ hk) ⟨rfl, rfl⟩
  · have hr := ifp hr hc
    refine r_iconst dX4_perils_9 (by decide) ?_
    refine r_istore dX4_perils_10 (Or.inl rfl) (by decide) (lv' := [(4, (0, 0)), (0, (14, a0)), (1, (0, a1)), (2, (0, l2)), (3, (0, l3))]) rfl ?_
    refine r_sub [1, 2, 3, 4, 0] (lv' := [(0, (14, a0)), (1, (0, a1)), (2, (0, l2)), (3, (0, l3)), (4, (0, 0))]) rfl ?_
    exact lp_ok (w := fun (q : Int × Int) => Wq p l e R s m args below meth c D G A H0 true n0 M_X4_perils x 0 0 12 [(0, (14, a0)), (1, (0, a1)), (2, (0, q.1)), (3, (0, l3)), (4, (0, q.2))] [] (h)) (K := K) (fun ⟨q0, q1⟩ r h1 h2 => oX4_perils_s12 (K := Sum.elim (fun (q : Int × Int) => Wq p l e R s m args below meth c D G A H0 true n0 M_X4_perils x 0 0 12 [(0, (14, a0)), (1, (0, a1)), (2, (0, q.1)), (3, (0, l3)), (4, (0, q.2))] [] (h)) (K)) (fun r z => k0 r z) (fun _ _ z => k1 _ _ z) (fun _ _ z => z) h1 h2) hr hk
set_option maxRecDepth 100000 in
set_option maxHeartbeats 4000000 in
theorem oX4_perils_b0 {a0 a1 : Int} {K : Int → Prop} (k0 : ∀ r, K (r) → x = (some (0, r), h)) {r : Int} (hr : fX4_perils h a0 a1 = some r) (hk : K r) : Wq p l e R s m args below meth c D G A H0 true n0 M_X4_perils x 0 0 0 [(0, (14, a0)), (1, (0, a1))] [] h := by
  unfold fX4_perils at hr
  refine r_iconst dX4_perils_0 (by decide) ?_
  refine r_istore_n dX4_perils_1 rfl (Or.inl rfl) (by decide) (lv' := [(2, (0, 0)), (0, (14, a0)), (1, (0, a1))]) rfl ?_
  refine r_iconst dX4_perils_2 (by decide) ?_
  refine r_istore_n dX4_perils_3 rfl (Or.inl rfl) (by decide) (lv' := [(3, (0, 0)), (2, (0, 0)), (0, (14, a0)), (1, (0, a1))]) rfl ?_
  refine r_sub [2, 3, 1, 0] (lv' := [(0, (14, a0)), (1, (0, a1)), (2, (0, 0)), (3, (0, 0))]) rfl ?_
  exact lp_ok (w := fun (q : Int × Int) => Wq p l e R s m args below meth c D G A H0 true n0 M_X4_perils x 0 0 4 [(0, (14, a0)), (1, (0, a1)), (2, (0, q.1)), (3, (0, q.2))] [] (h)) (K := K) (fun ⟨q0, q1⟩ r h1 h2 => oX4_perils_s4 (K := Sum.elim (fun (q : Int × Int) => Wq p l e R s m args below meth c D G A H0 true n0 M_X4_perils x 0 0 4 [(0, (14, a0)), (1, (0, a1)), (2, (0, q.1)), (3, (0, q.2))] [] (h)) (K)) (fun r z => k0 r z) (fun _ _ z => z) h1 h2) hr hk
end M_X4_perils
theorem oX4_perils {l : Launch} {D : va_G} {G : gG} {h : hH} {a0 a1 : Int} {r : Int} (hr : fX4_perils h a0 a1 = some r) : Ctr l D G true yX4_perils M_X4_perils [(14, a0), (0, a1)] h (some (0, r), h) :=
  Ctr_of (by decide) rfl (fun z => by cases z) (nl rfl) (fun {p e R s m args below meth c A H0} => by
    exact oX4_perils_b0 (K := fun z9 => z9 = r) (fun r9 z => by rw [z]) hr rfl)
/-! X4_othersOf -/
theorem dX4_othersOf_0 : decode cX4_othersOf 0 = .ok (.iconst 0, 1) := by decide +kernel
theorem dX4_othersOf_1 : decode cX4_othersOf 1 = .ok (.istore_n 2, 1) := by decide +kernel
theorem dX4_othersOf_2 : decode cX4_othersOf 2 = .ok (.iconst 0, 1) := by decide +kernel
theorem dX4_othersOf_3 : decode cX4_othersOf 3 = .ok (.istore_n 3, 1) := by decide +kernel
theorem dX4_othersOf_4 : decode cX4_othersOf 4 = .ok (.iload_n 3, 1) := by decide +kernel
theorem dX4_othersOf_5 : decode cX4_othersOf 5 = .ok (.aload_n 0, 1) := by decide +kernel
theorem dX4_othersOf_6 : decode cX4_othersOf 6 = .ok (.getfield 44, 3) := by decide +kernel
theorem dX4_othersOf_9 : decode cX4_othersOf 9 = .ok (.if_icmp .ge 40, 3) := by decide +kernel
theorem dX4_othersOf_12 : decode cX4_othersOf 12 = .ok (.aload_n 0, 1) := by decide +kernel
theorem dX4_othersOf_13 : decode cX4_othersOf 13 = .ok (.iload_n 3, 1) := by decide +kernel
theorem dX4_othersOf_14 : decode cX4_othersOf 14 = .ok (.iconst 0, 1) := by decide +kernel
theorem dX4_othersOf_15 : decode cX4_othersOf 15 = .ok (.invokevirtual 94, 3) := by decide +kernel
theorem dX4_othersOf_18 : decode cX4_othersOf 18 = .ok (.iload_n 1, 1) := by decide +kernel
theorem dX4_othersOf_19 : decode cX4_othersOf 19 = .ok (.if_icmp .ne 24, 3) := by decide +kernel
theorem dX4_othersOf_22 : decode cX4_othersOf 22 = .ok (.aload_n 0, 1) := by decide +kernel
theorem dX4_othersOf_23 : decode cX4_othersOf 23 = .ok (.iload_n 3, 1) := by decide +kernel
theorem dX4_othersOf_24 : decode cX4_othersOf 24 = .ok (.iconst 1, 1) := by decide +kernel
theorem dX4_othersOf_25 : decode cX4_othersOf 25 = .ok (.invokevirtual 94, 3) := by decide +kernel
theorem dX4_othersOf_28 : decode cX4_othersOf 28 = .ok (.iload_n 1, 1) := by decide +kernel
theorem dX4_othersOf_29 : decode cX4_othersOf 29 = .ok (.if_icmp .eq 14, 3) := by decide +kernel
theorem dX4_othersOf_32 : decode cX4_othersOf 32 = .ok (.iload_n 2, 1) := by decide +kernel
theorem dX4_othersOf_33 : decode cX4_othersOf 33 = .ok (.iconst 1, 1) := by decide +kernel
theorem dX4_othersOf_34 : decode cX4_othersOf 34 = .ok (.aload_n 0, 1) := by decide +kernel
theorem dX4_othersOf_35 : decode cX4_othersOf 35 = .ok (.iload_n 3, 1) := by decide +kernel
theorem dX4_othersOf_36 : decode cX4_othersOf 36 = .ok (.iconst 1, 1) := by decide +kernel
theorem dX4_othersOf_37 : decode cX4_othersOf 37 = .ok (.invokevirtual 94, 3) := by decide +kernel
theorem dX4_othersOf_40 : decode cX4_othersOf 40 = .ok (.ishl, 1) := by decide +kernel
theorem dX4_othersOf_41 : decode cX4_othersOf 41 = .ok (.ior, 1) := by decide +kernel
theorem dX4_othersOf_42 : decode cX4_othersOf 42 = .ok (.istore_n 2, 1) := by decide +kernel
theorem dX4_othersOf_43 : decode cX4_othersOf 43 = .ok (.iinc 3 1, 3) := by decide +kernel
theorem dX4_othersOf_46 : decode cX4_othersOf 46 = .ok (.goto (-42), 3) := by decide +kernel
theorem dX4_othersOf_49 : decode cX4_othersOf 49 = .ok (.iload_n 2, 1) := by decide +kernel
theorem dX4_othersOf_50 : decode cX4_othersOf 50 = .ok (.ireturn, 1) := by decide +kernel
abbrev M_X4_othersOf : mM := (cX4_othersOf, 4, RX4, some .int, false, 2, 43, 0, 0)
theorem gX4_othersOf : cI yX4_othersOf M_X4_othersOf 1 := ⟨(wsl_59 _ (List.mem_of_getElem? (i := 21) rfl)), (wsl_59 _ (List.mem_of_getElem? (i := 22) rfl)), (wsl_1 _ (List.mem_of_getElem? (i := 19) rfl)), (wsl_59 _ (List.mem_of_getElem? (i := 23) rfl)), by decide +kernel⟩
noncomputable def fX4_othersOf_s4 (h : hH) (a0 a1 : Int) : Int × Int → Option ((Int × Int) ⊕ (Int)) := fun (l2, l3) =>
  if l3 < h a0 2 then
    (fX4_refPart h a0 l3 0).bind fun r15 =>
    if r15 = a1 then
      (fX4_refPart h a0 l3 1).bind fun r25 =>
      if r25 = a1 then
        some (.inl (l2, w32 (l3 + 1)))
      else
        (fX4_refPart h a0 l3 1).bind fun r37 =>
        some (.inl (iorD l2 (ishD 1 r37), w32 (l3 + 1)))
    else
      some (.inl (l2, w32 (l3 + 1)))
  else
    some (.inr (l2))
noncomputable def fX4_othersOf (h : hH) (a0 a1 : Int) : Option (Int) :=
  lpO (fX4_othersOf_s4 h a0 a1) (0, 0)
section M_X4_othersOf
variable {p : Program} {l : Launch} {e : Env} {R : Room} {s : State} {m : MethodId} {args : Array Value} {below : List Frame} {meth : Method} {c : Code} {D : va_G} {G : gG} {A : Nat → Prop} {H0 : Heap} {n0 : Int} {x : Option vV × hH} {h : hH}
set_option maxRecDepth 100000 in
set_option maxHeartbeats 4000000 in
theorem oX4_othersOf_s4 {a0 a1 l2 l3 : Int} {K : (Int × Int) ⊕ (Int) → Prop} (k0 : ∀ r, K (.inr (r)) → x = (some (0, r), h)) (k1 : ∀ (l2 : Int) (l3 : Int), K (.inl (l2, l3)) → Wq p l e R s m args below meth c D G A H0 true n0 M_X4_othersOf x 0 0 4 [(0, (14, a0)), (1, (0, a1)), (2, (0, l2)), (3, (0, l3))] [] h) {r : (Int × Int) ⊕ (Int)} (hr : fX4_othersOf_s4 h a0 a1 (l2, l3) = some r) (hk : K r) : Wq p l e R s m args below meth c D G A H0 true n0 M_X4_othersOf x 0 0 4 [(0, (14, a0)), (1, (0, a1)), (2, (0, l2)), (3, (0, l3))] [] h := by
  unfold fX4_othersOf_s4 at hr
  refine r_iload_n dX4_othersOf_4 rfl 3 rfl (Or.inl rfl) ?_
  refine r_aload_n dX4_othersOf_5 rfl 0 rfl (nl rfl) ?_
  refine r_get 4 2 (o := a0) (w := (0, h a0 2)) (T := TX4) (ref := "FollowingRefs$Schema") rfl (by decide) rfl (by decide) inlX4 (wsl_11 _ (List.mem_of_getElem? (i := 21) rfl)) rfl dX4_othersOf_6 rfl ?_
  refine r_icmp_ge dX4_othersOf_9 (tgt := 49) (by decide) (fun hc => ?_) (fun hc => ?_)
  · have hr := ifn hr hc
    refine r_iload_n dX4_othersOf_49 rfl 2 rfl (Or.inl rfl) ?_
    obtain rfl := Option.some.inj hr
    exact r_ret dX4_othersOf_50 rfl (Or.inl ⟨rfl, rfl⟩) (k0 _ hk) ⟨rfl, rfl⟩
  · have hr := ifp hr hc
    refine r_aload_n dX4_othersOf_12 rfl 0 rfl (nl rfl) ?_
    refine r_iload_n dX4_othersOf_13 rfl 3 rfl (Or.inl rfl) ?_
    refine r_iconst dX4_othersOf_14 (by decide) ?_
    obtain ⟨r15, hg15, hr⟩ := bnd hr
    refine k_V (ci := 4) (o := a0) (T := TX4) (as := [(0, l3), (0, 0)]) (rest := []) (X := (some (0, r15), h)) (oX4_refPart hg15) gX4_refPart rfl (by decide) rfl (wsl_57 _ (List.mem_of_getElem? (i := 14) rfl)) rfl dX4_othersOf_15 rfl ?_
    refine r_iload_n dX4_othersOf_18 rfl 1 rfl (Or.inl rfl) ?_
    refine r_icmp_ne dX4_othersOf_19 (tgt := 43) (by decide) (fun hc => ?_) (fun hc => ?_)
    · have hr := ifn hr hc
      refine r_iinc (k := 3) (v := l3) dX4_othersOf_43 rfl (by decide) (lv' := [(3, (0, w32 (l3 + 1))), (0, (14, a0)), (1, (0, a1)), (2, (0, l2))]) rfl ?_
      refine r_goto dX4_othersOf_46 (tgt := 4) (by decide) ?_
      refine r_sub [1, 2, 3, 0] (lv' := [(0, (14, a0)), (1, (0, a1)), (2, (0, l2)), (3, (0, w32 (l3 + 1)))]) rfl ?_
      obtain rfl := Option.some.inj hr
      exact k1 _ _ hk
    · have hr := ifp hr hc
      refine r_aload_n dX4_othersOf_22 rfl 0 rfl (nl rfl) ?_
      refine r_iload_n dX4_othersOf_23 rfl 3 rfl (Or.inl rfl) ?_
      refine r_iconst dX4_othersOf_24 (by decide) ?_
      obtain ⟨r25, hg25, hr⟩ := bnd hr
      refine k_V (ci := 4) (o := a0) (T := TX4) (as := [(0, l3), (0, 1)]) (rest := []) (X := (some (0, r25), h)) (oX4_refPart hg25) gX4_refPart rfl (by decide) rfl (wsl_57 _ (List.mem_of_getElem? (i := 14) rfl)) rfl dX4_othersOf_25 rfl ?_
      refine r_iload_n dX4_othersOf_28 rfl 1 rfl (Or.inl rfl) ?_
      refine r_icmp_eq dX4_othersOf_29 (tgt := 43) (by decide) (fun hc => ?_) (fun hc => ?_)
      · have hr := ifp hr hc
        refine r_iinc (k := 3) (v := l3) dX4_othersOf_43 rfl (by decide) (lv' := [(3, (0, w32 (l3 + 1))), (0, (14, a0)), (1, (0, a1)), (2, (0, l2))]) rfl ?_
        refine r_goto dX4_othersOf_46 (tgt := 4) (by decide) ?_
        refine r_sub [1, 2, 3, 0] (lv' := [(0, (14, a0)), (1, (0, a1)), (2, (0, l2)), (3, (0, w32 (l3 + 1)))]) rfl ?_
        obtain rfl := Option.some.inj hr
        exact k1 _ _ hk
      · have hr := ifn hr hc
        refine r_iload_n dX4_othersOf_32 rfl 2 rfl (Or.inl rfl) ?_
        refine r_iconst dX4_othersOf_33 (by decide) ?_
        refine r_aload_n dX4_othersOf_34 rfl 0 rfl (nl rfl) ?_
        refine r_iload_n dX4_othersOf_35 rfl 3 rfl (Or.inl rfl) ?_
        refine r_iconst dX4_othersOf_36 (by decide) ?_
        obtain ⟨r37, hg37, hr⟩ := bnd hr
        refine k_V (ci := 4) (o := a0) (T := TX4) (as := [(0, l3), (0, 1)]) (rest := [(0, 1), (0, l2)]) (X := (some (0, r37), h)) (oX4_refPart hg37) gX4_refPart rfl (by decide) rfl (wsl_57 _ (List.mem_of_getElem? (i := 14) rfl)) rfl dX4_othersOf_37 rfl ?_
        refine r_ishl dX4_othersOf_40 ?_
        refine r_ior dX4_othersOf_41 ?_
        refine r_istore_n dX4_othersOf_42 rfl (Or.inl rfl) (by decide) (lv' := [(2, (0, iorD l2 (ishD 1 r37))), (0, (14, a0)), (1, (0, a1)), (3, (0, l3))]) rfl ?_
        refine r_iinc (k := 3) (v := l3) dX4_othersOf_43 rfl (by decide) (lv' := [(3, (0, w32 (l3 + 1))), (2, (0, iorD l2 (ishD 1 r37))), (0, (14, a0)), (1, (0, a1))]) rfl ?_
        refine r_goto dX4_othersOf_46 (tgt := 4) (by decide) ?_
        refine r_sub [2, 3, 1, 0] (lv' := [(0, (14, a0)), (1, (0, a1)), (2, (0, iorD l2 (ishD 1 r37))), (3, (0, w32 (l3 + 1)))]) rfl ?_
        obtain rfl := Option.some.inj hr
        exact k1 _ _ hk
set_option maxRecDepth 100000 in
set_option maxHeartbeats 4000000 in
theorem oX4_othersOf_b0 {a0 a1 : Int} {K : Int → Prop} (k0 : ∀ r, K (r) → x = (some (0, r), h)) {r : Int} (hr : fX4_othersOf h a0 a1 = some r) (hk : K r) : Wq p l e R s m args below meth c D G A H0 true n0 M_X4_othersOf x 0 0 0 [(0, (14, a0)), (1, (0, a1))] [] h := by
  unfold fX4_othersOf at hr
  refine r_iconst dX4_othersOf_0 (by decide) ?_
  refine r_istore_n dX4_othersOf_1 rfl (Or.inl rfl) (by decide) (lv' := [(2, (0, 0)), (0, (14, a0)), (1, (0, a1))]) rfl ?_
  refine r_iconst dX4_othersOf_2 (by decide) ?_
  refine r_istore_n dX4_othersOf_3 rfl (Or.inl rfl) (by decide) (lv' := [(3, (0, 0)), (2, (0, 0)), (0, (14, a0)), (1, (0, a1))]) rfl ?_
  refine r_sub [2, 3, 1, 0] (lv' := [(0, (14, a0)), (1, (0, a1)), (2, (0, 0)), (3, (0, 0))]) rfl ?_
  exact lp_ok (w := fun (q : Int × Int) => Wq p l e R s m args below meth c D G A H0 true n0 M_X4_othersOf x 0 0 4 [(0, (14, a0)), (1, (0, a1)), (2, (0, q.1)), (3, (0, q.2))] [] (h)) (K := K) (fun ⟨q0, q1⟩ r h1 h2 => oX4_othersOf_s4 (K := Sum.elim (fun (q : Int × Int) => Wq p l e R s m args below meth c D G A H0 true n0 M_X4_othersOf x 0 0 4 [(0, (14, a0)), (1, (0, a1)), (2, (0, q.1)), (3, (0, q.2))] [] (h)) (K)) (fun r z => k0 r z) (fun _ _ z => z) h1 h2) hr hk
end M_X4_othersOf
theorem oX4_othersOf {l : Launch} {D : va_G} {G : gG} {h : hH} {a0 a1 : Int} {r : Int} (hr : fX4_othersOf h a0 a1 = some r) : Ctr l D G true yX4_othersOf M_X4_othersOf [(14, a0), (0, a1)] h (some (0, r), h) :=
  Ctr_of (by decide) rfl (fun z => by cases z) (nl rfl) (fun {p e R s m args below meth c A H0} => by
    exact oX4_othersOf_b0 (K := fun z9 => z9 = r) (fun r9 z => by rw [z]) hr rfl)
/-! X4_packedOrder -/
theorem dX4_packedOrder_0 : decode cX4_packedOrder 0 = .ok (.iconst 0, 1) := by decide +kernel
theorem dX4_packedOrder_1 : decode cX4_packedOrder 1 = .ok (.istore_n 1, 1) := by decide +kernel
theorem dX4_packedOrder_2 : decode cX4_packedOrder 2 = .ok (.iconst 0, 1) := by decide +kernel
theorem dX4_packedOrder_3 : decode cX4_packedOrder 3 = .ok (.istore_n 2, 1) := by decide +kernel
theorem dX4_packedOrder_4 : decode cX4_packedOrder 4 = .ok (.iconst 0, 1) := by decide +kernel
theorem dX4_packedOrder_5 : decode cX4_packedOrder 5 = .ok (.istore_n 3, 1) := by decide +kernel
theorem dX4_packedOrder_6 : decode cX4_packedOrder 6 = .ok (.iload_n 3, 1) := by decide +kernel
theorem dX4_packedOrder_7 : decode cX4_packedOrder 7 = .ok (.aload_n 0, 1) := by decide +kernel
theorem dX4_packedOrder_8 : decode cX4_packedOrder 8 = .ok (.getfield 37, 3) := by decide +kernel
theorem dX4_packedOrder_11 : decode cX4_packedOrder 11 = .ok (.if_icmp .ge 81, 3) := by decide +kernel
theorem dX4_packedOrder_14 : decode cX4_packedOrder 14 = .ok (.iconst (-1), 1) := by decide +kernel
theorem dX4_packedOrder_15 : decode cX4_packedOrder 15 = .ok (.istore 4, 2) := by decide +kernel
theorem dX4_packedOrder_17 : decode cX4_packedOrder 17 = .ok (.aload_n 0, 1) := by decide +kernel
theorem dX4_packedOrder_18 : decode cX4_packedOrder 18 = .ok (.getfield 37, 3) := by decide +kernel
theorem dX4_packedOrder_21 : decode cX4_packedOrder 21 = .ok (.iconst 1, 1) := by decide +kernel
theorem dX4_packedOrder_22 : decode cX4_packedOrder 22 = .ok (.isub, 1) := by decide +kernel
theorem dX4_packedOrder_23 : decode cX4_packedOrder 23 = .ok (.istore 5, 2) := by decide +kernel
theorem dX4_packedOrder_25 : decode cX4_packedOrder 25 = .ok (.iload 5, 2) := by decide +kernel
theorem dX4_packedOrder_27 : decode cX4_packedOrder 27 = .ok (.ifCond .lt 35, 3) := by decide +kernel
theorem dX4_packedOrder_30 : decode cX4_packedOrder 30 = .ok (.iload_n 2, 1) := by decide +kernel
theorem dX4_packedOrder_31 : decode cX4_packedOrder 31 = .ok (.iload 5, 2) := by decide +kernel
theorem dX4_packedOrder_33 : decode cX4_packedOrder 33 = .ok (.iushr, 1) := by decide +kernel
theorem dX4_packedOrder_34 : decode cX4_packedOrder 34 = .ok (.iconst 1, 1) := by decide +kernel
theorem dX4_packedOrder_35 : decode cX4_packedOrder 35 = .ok (.iand, 1) := by decide +kernel
theorem dX4_packedOrder_36 : decode cX4_packedOrder 36 = .ok (.ifCond .ne 20, 3) := by decide +kernel
theorem dX4_packedOrder_39 : decode cX4_packedOrder 39 = .ok (.aload_n 0, 1) := by decide +kernel
theorem dX4_packedOrder_40 : decode cX4_packedOrder 40 = .ok (.iload 5, 2) := by decide +kernel
theorem dX4_packedOrder_42 : decode cX4_packedOrder 42 = .ok (.invokevirtual 97, 3) := by decide +kernel
theorem dX4_packedOrder_45 : decode cX4_packedOrder 45 = .ok (.iload_n 2, 1) := by decide +kernel
theorem dX4_packedOrder_46 : decode cX4_packedOrder 46 = .ok (.iconst (-1), 1) := by decide +kernel
theorem dX4_packedOrder_47 : decode cX4_packedOrder 47 = .ok (.ixor, 1) := by decide +kernel
theorem dX4_packedOrder_48 : decode cX4_packedOrder 48 = .ok (.iand, 1) := by decide +kernel
theorem dX4_packedOrder_49 : decode cX4_packedOrder 49 = .ok (.ifCond .ne 7, 3) := by decide +kernel
theorem dX4_packedOrder_52 : decode cX4_packedOrder 52 = .ok (.iload 5, 2) := by decide +kernel
theorem dX4_packedOrder_54 : decode cX4_packedOrder 54 = .ok (.istore 4, 2) := by decide +kernel
theorem dX4_packedOrder_56 : decode cX4_packedOrder 56 = .ok (.iinc 5 (-1), 3) := by decide +kernel
theorem dX4_packedOrder_59 : decode cX4_packedOrder 59 = .ok (.goto (-34), 3) := by decide +kernel
theorem dX4_packedOrder_62 : decode cX4_packedOrder 62 = .ok (.iload 4, 2) := by decide +kernel
theorem dX4_packedOrder_64 : decode cX4_packedOrder 64 = .ok (.iconst (-1), 1) := by decide +kernel
theorem dX4_packedOrder_65 : decode cX4_packedOrder 65 = .ok (.if_icmp .ne 5, 3) := by decide +kernel
theorem dX4_packedOrder_68 : decode cX4_packedOrder 68 = .ok (.iconst (-1), 1) := by decide +kernel
theorem dX4_packedOrder_69 : decode cX4_packedOrder 69 = .ok (.ireturn, 1) := by decide +kernel
theorem dX4_packedOrder_70 : decode cX4_packedOrder 70 = .ok (.iload_n 2, 1) := by decide +kernel
theorem dX4_packedOrder_71 : decode cX4_packedOrder 71 = .ok (.iconst 1, 1) := by decide +kernel
theorem dX4_packedOrder_72 : decode cX4_packedOrder 72 = .ok (.iload 4, 2) := by decide +kernel
theorem dX4_packedOrder_74 : decode cX4_packedOrder 74 = .ok (.ishl, 1) := by decide +kernel
theorem dX4_packedOrder_75 : decode cX4_packedOrder 75 = .ok (.ior, 1) := by decide +kernel
theorem dX4_packedOrder_76 : decode cX4_packedOrder 76 = .ok (.istore_n 2, 1) := by decide +kernel
theorem dX4_packedOrder_77 : decode cX4_packedOrder 77 = .ok (.iload_n 1, 1) := by decide +kernel
theorem dX4_packedOrder_78 : decode cX4_packedOrder 78 = .ok (.iload 4, 2) := by decide +kernel
theorem dX4_packedOrder_80 : decode cX4_packedOrder 80 = .ok (.iconst 4, 1) := by decide +kernel
theorem dX4_packedOrder_81 : decode cX4_packedOrder 81 = .ok (.iload_n 3, 1) := by decide +kernel
theorem dX4_packedOrder_82 : decode cX4_packedOrder 82 = .ok (.imul, 1) := by decide +kernel
theorem dX4_packedOrder_83 : decode cX4_packedOrder 83 = .ok (.ishl, 1) := by decide +kernel
theorem dX4_packedOrder_84 : decode cX4_packedOrder 84 = .ok (.ior, 1) := by decide +kernel
theorem dX4_packedOrder_85 : decode cX4_packedOrder 85 = .ok (.istore_n 1, 1) := by decide +kernel
theorem dX4_packedOrder_86 : decode cX4_packedOrder 86 = .ok (.iinc 3 1, 3) := by decide +kernel
theorem dX4_packedOrder_89 : decode cX4_packedOrder 89 = .ok (.goto (-83), 3) := by decide +kernel
theorem dX4_packedOrder_92 : decode cX4_packedOrder 92 = .ok (.iload_n 1, 1) := by decide +kernel
theorem dX4_packedOrder_93 : decode cX4_packedOrder 93 = .ok (.ireturn, 1) := by decide +kernel
abbrev M_X4_packedOrder : mM := (cX4_packedOrder, 6, RX4, some .int, false, 3, 66, 0, 0)
theorem gX4_packedOrder : cI yX4_packedOrder M_X4_packedOrder 0 := ⟨(wsl_59 _ (List.mem_of_getElem? (i := 17) rfl)), (wsl_59 _ (List.mem_of_getElem? (i := 18) rfl)), (wsl_1 _ (List.mem_of_getElem? (i := 19) rfl)), (wsl_59 _ (List.mem_of_getElem? (i := 19) rfl)), by decide +kernel⟩
noncomputable def fX4_packedOrder_s25 (h : hH) (a0 l1 l2 l3 : Int) : Int × Int → Option ((Int × Int) ⊕ ((Int × Int × Int) ⊕ (Int))) := fun (l4, l5) =>
  if l5 < 0 then
    if l4 = -1 then
      some (.inr (.inr (-1)))
    else
      some (.inr (.inl (iorD l1 (ishD l4 (w32 (4 * l3))), iorD l2 (ishD 1 l4), w32 (l3 + 1))))
  else
    if iadD (iusD l2 l5) 1 = 0 then
      (fX4_othersOf h a0 l5).bind fun r42 =>
      if iadD r42 (ixoD l2 (-1)) = 0 then
        some (.inl (l5, w32 (l5 + (-1))))
      else
        some (.inl (l4, w32 (l5 + (-1))))
    else
      some (.inl (l4, w32 (l5 + (-1))))
noncomputable def fX4_packedOrder_s6 (h : hH) (a0 : Int) : Int × Int × Int → Option ((Int × Int × Int) ⊕ (Int)) := fun (l1, l2, l3) =>
  if l3 < h a0 0 then
    lpO (fX4_packedOrder_s25 h a0 l1 l2 l3) (-1, w32 ((h a0 0) - 1))
  else
    some (.inr (l1))
noncomputable def fX4_packedOrder (h : hH) (a0 : Int) : Option (Int) :=
  lpO (fX4_packedOrder_s6 h a0) (0, 0, 0)
section M_X4_packedOrder
variable {p : Program} {l : Launch} {e : Env} {R : Room} {s : State} {m : MethodId} {args : Array Value} {below : List Frame} {meth : Method} {c : Code} {D : va_G} {G : gG} {A : Nat → Prop} {H0 : Heap} {n0 : Int} {x : Option vV × hH} {h : hH}
set_option maxRecDepth 100000 in
set_option maxHeartbeats 4000000 in
theorem oX4_packedOrder_s25 {a0 l1 l2 l3 l4 l5 : Int} {K : (Int × Int) ⊕ ((Int × Int × Int) ⊕ (Int)) → Prop} (k0 : ∀ r, K (.inr (.inr (r))) → x = (some (0, r), h)) (k1 : ∀ (l1 : Int) (l2 : Int) (l3 : Int), K (.inr (.inl (l1, l2, l3))) → Wq p l e R s m args below meth c D G A H0 true n0 M_X4_packedOrder x 0 0 6 [(0, (14, a0)), (1, (0, l1)), (2, (0, l2)), (3, (0, l3))] [] h) (k2 : ∀ (l4 : Int) (l5 : Int), K (.inl (l4, l5)) → Wq p l e R s m args below meth c D G A H0 true n0 M_X4_packedOrder x 0 0 25 [(0, (14, a0)), (1, (0, l1)), (2, (0, l2)), (3, (0, l3)), (4, (0, l4)), (5, (0, l5))] [] h) {r : (Int × Int) ⊕ ((Int × Int × Int) ⊕ (Int))} (hr : fX4_packedOrder_s25 h a0 l1 l2 l3 (l4, l5) = some r) (hk : K r) : Wq p l e R s m args below meth c D G A H0 true n0 M_X4_packedOrder x 0 0 25 [(0, (14, a0)), (1, (0, l1)), (2, (0, l2)), (3, (0, l3)), (4, (0, l4)), (5, (0, l5))] [] h := by
  unfold fX4_packedOrder_s25 at hr
  refine r_iload dX4_packedOrder_25 5 rfl (Or.inl rfl) ?_
  refine r_if_lt dX4_packedOrder_27 (tgt := 62) (by decide) (fun hc => ?_) (fun hc => ?_)
  · have hr := ifp hr hc
    refine r_iload dX4_packedOrder_62 4 rfl (Or.inl rfl) ?_
    refine r_iconst dX4_packedOrder_64 (by decide) ?_
    refine r_icmp_ne dX4_packedOrder_65 (tgt := 70) (by decide) (fun hc => ?_) (fun hc => ?_)
    · have hr := ifn hr hc
      refine r_iload_n dX4_packedOrder_70 rfl 2 rfl (Or.inl rfl) ?_
      refine r_iconst dX4_packedOrder_71 (by decide) ?_
      refine r_iload dX4_packedOrder_72 4 rfl (Or.inl rfl) ?_
      refine r_ishl dX4_packedOrder_74 ?_
      refine r_ior dX4_packedOrder_75 ?_
      refine r_istore_n dX4_packedOrder_76 rfl (Or.inl rfl) (by decide) (lv' := [(2, (0, iorD l2 (ishD 1 l4))), (0, (14, a0)), (1, (0, l1)), (3, (0, l3)), (4, (0, l4)), (5, (0, l5))]) rfl ?_
      refine r_iload_n dX4_packedOrder_77 rfl 2 rfl (Or.inl rfl) ?_
      refine r_iload dX4_packedOrder_78 4 rfl (Or.inl rfl) ?_
      refine r_iconst dX4_packedOrder_80 (by decide) ?_
      refine r_iload_n dX4_packedOrder_81 rfl 3 rfl (Or.inl rfl) ?_
      refine r_imul dX4_packedOrder_82 ?_
      refine r_ishl dX4_packedOrder_83 ?_
      refine r_ior dX4_packedOrder_84 ?_
      refine r_istore_n dX4_packedOrder_85 rfl (Or.inl rfl) (by decide) (lv' := [(1, (0, iorD l1 (ishD l4 (w32 (4 * l3))))), (2, (0, iorD l2 (ishD 1 l4))), (0, (14, a0)), (3, (0, l3)), (4, (0, l4)), (5, (0, l5))]) rfl ?_
      refine r_iinc (k := 3) (v := l3) dX4_packedOrder_86 rfl (by decide) (lv' := [(3, (0, w32 (l3 + 1))), (1, (0, iorD l1 (ishD l4 (w32 (4 * l3))))), (2, (0, iorD l2 (ishD 1 l4))), (0, (14, a0)), (4, (0, l4)), (5, (0, l5))]) rfl ?_
      refine r_goto dX4_packedOrder_89 (tgt := 6) (by decide) ?_
      refine r_sub [3, 1, 2, 0] (lv' := [(0, (14, a0)), (1, (0, iorD l1 (ishD l4 (w32 (4 * l3))))), (2, (0, iorD l2 (ishD 1 l4))), (3, (0, w32 (l3 + 1)))]) rfl ?_
      obtain rfl := Option.some.inj hr
      exact k1 _ _ _ hk
    · have hr := ifp hr hc
      refine r_iconst dX4_packedOrder_68 (by decide) ?_
      obtain rfl := Option.some.inj hr
      exact r_ret dX4_packedOrder_69 rfl (Or.inl ⟨rfl, rfl⟩) (k0 _ hk) ⟨rfl, rfl⟩
  · have hr := ifn hr hc
    refine r_iload_n dX4_packedOrder_30 rfl 2 rfl (Or.inl rfl) ?_
    refine r_iload dX4_packedOrder_31 5 rfl (Or.inl rfl) ?_
    refine r_iushr dX4_packedOrder_33 ?_
    refine r_iconst dX4_packedOrder_34 (by decide) ?_
    refine r_iand dX4_packedOrder_35 ?_
    refine r_if_ne dX4_packedOrder_36 (tgt := 56) (by decide) (fun hc => ?_) (fun hc => ?_)
    · have hr := ifn hr hc
      refine r_iinc (k := 5) (v := l5) dX4_packedOrder_56 rfl (by decide) (lv' := [(5, (0, w32 (l5 + (-1)))), (0, (14, a0)), (1, (0, l1)), (2, (0, l2)), (3, (0, l3)), (4, (0, l4))]) rfl ?_
      refine r_goto dX4_packedOrder_59 (tgt := 25) (by decide) ?_
      refine r_sub [1, 2, 3, 4, 5, 0] (lv' := [(0, (14, a0)), (1, (0, l1)), (2, (0, l2)), (3, (0, l3)), (4, (0, l4)), (5, (0, w32 (l5 + (-1))))]) rfl ?_
      obtain rfl := Option.some.inj hr
      exact k2 _ _ hk
    · have hr := ifp hr hc
      refine r_aload_n dX4_packedOrder_39 rfl 0 rfl (nl rfl) ?_
      refine r_iload dX4_packedOrder_40 5 rfl (Or.inl rfl) ?_
      obtain ⟨r42, hg42, hr⟩ := bnd hr
      refine k_V (ci := 4) (o := a0) (T := TX4) (as := [(0, l5)]) (rest := []) (X := (some (0, r42), h)) (oX4_othersOf hg42) gX4_othersOf rfl (by decide) rfl (wsl_59 _ (List.mem_of_getElem? (i := 20) rfl)) rfl dX4_packedOrder_42 rfl ?_
      refine r_iload_n dX4_packedOrder_45 rfl 2 rfl (Or.inl rfl) ?_
      refine r_iconst dX4_packedOrder_46 (by decide) ?_
      refine r_ixor dX4_packedOrder_47 ?_
      refine r_iand dX4_packedOrder_48 ?_
      refine r_if_ne dX4_packedOrder_49 (tgt := 56) (by decide) (fun hc => ?_) (fun hc => ?_)
      · have hr := ifn hr hc
        refine r_iinc (k := 5) (v := l5) dX4_packedOrder_56 rfl (by decide) (lv' := [(5, (0, w32 (l5 + (-1)))), (0, (14, a0)), (1, (0, l1)), (2, (0, l2)), (3, (0, l3)), (4, (0, l4))]) rfl ?_
        refine r_goto dX4_packedOrder_59 (tgt := 25) (by decide) ?_
        refine r_sub [1, 2, 3, 4, 5, 0] (lv' := [(0, (14, a0)), (1, (0, l1)), (2, (0, l2)), (3, (0, l3)), (4, (0, l4)), (5, (0, w32 (l5 + (-1))))]) rfl ?_
        obtain rfl := Option.some.inj hr
        exact k2 _ _ hk
      · have hr := ifp hr hc
        refine r_iload dX4_packedOrder_52 5 rfl (Or.inl rfl) ?_
        refine r_istore dX4_packedOrder_54 (Or.inl rfl) (by decide) (lv' := [(4, (0, l5)), (0, (14, a0)), (1, (0, l1)), (2, (0, l2)), (3, (0, l3)), (5, (0, l5))]) rfl ?_
        refine r_iinc (k := 5) (v := l5) dX4_packedOrder_56 rfl (by decide) (lv' := [(5, (0, w32 (l5 + (-1)))), (4, (0, l5)), (0, (14, a0)), (1, (0, l1)), (2, (0, l2)), (3, (0, l3))]) rfl ?_
        refine r_goto dX4_packedOrder_59 (tgt := 25) (by decide) ?_
        refine r_sub [2, 3, 4, 5, 1, 0] (lv' := [(0, (14, a0)), (1, (0, l1)), (2, (0, l2)), (3, (0, l3)), (4, (0, l5)), (5, (0, w32 (l5 + (-1))))]) rfl ?_
        obtain rfl := Option.some.inj hr
        exact k2 _ _ hk
set_option maxRecDepth 100000 in
set_option maxHeartbeats 4000000 in
theorem oX4_packedOrder_s6 {a0 l1 l2 l3 : Int} {K : (Int × Int × Int) ⊕ (Int) → Prop} (k0 : ∀ r, K (.inr (r)) → x = (some (0, r), h)) (k1 : ∀ (l1 : Int) (l2 : Int) (l3 : Int), K (.inl (l1, l2, l3)) → Wq p l e R s m args below meth c D G A H0 true n0 M_X4_packedOrder x 0 0 6 [(0, (14, a0)), (1, (0, l1)), (2, (0, l2)), (3, (0, l3))] [] h) {r : (Int × Int × Int) ⊕ (Int)} (hr : fX4_packedOrder_s6 h a0 (l1, l2, l3) = some r) (hk : K r) : Wq p l e R s m args below meth c D G A H0 true n0 M_X4_packedOrder x 0 0 6 [(0, (14, a0)), (1, (0, l1)), (2, (0, l2)), (3, (0, l3))] [] h := by
  unfold fX4_packedOrder_s6 at hr
  refine r_iload_n dX4_packedOrder_6 rfl 3 rfl (Or.inl rfl) ?_
  refine r_aload_n dX4_packedOrder_7 rfl 0 rfl (nl rfl) ?_
  refine r_get 4 0 (o := a0) (w := (0, h a0 0)) (T := TX4) (ref := "FollowingRefs$Schema") rfl (by decide) rfl (by decide) inlX4 (wsl_11 _ (List.mem_of_getElem? (i := 19) rfl)) rfl dX4_packedOrder_8 rfl ?_
  refine r_icmp_ge dX4_packedOrder_11 (tgt := 92) (by decide) (fun hc => ?_) (fun hc => ?_)
  · have hr := ifn hr hc
    refine r_iload_n dX4_packedOrder_92 rfl 1 rfl (Or.inl rfl) ?_
    obtain rfl := Option.some.inj hr
    exact r_ret dX4_packedOrder_93 rfl (Or.inl ⟨rfl, rfl⟩) (k0 _ hk) ⟨rfl, rfl⟩
  · have hr := ifp hr hc
    refine r_iconst dX4_packedOrder_14 (by decide) ?_
    refine r_istore dX4_packedOrder_15 (Or.inl rfl) (by decide) (lv' := [(4, (0, -1)), (0, (14, a0)), (1, (0, l1)), (2, (0, l2)), (3, (0, l3))]) rfl ?_
    refine r_aload_n dX4_packedOrder_17 rfl 1 rfl (nl rfl) ?_
    refine r_get 4 0 (o := a0) (w := (0, h a0 0)) (T := TX4) (ref := "FollowingRefs$Schema") rfl (by decide) rfl (by decide) inlX4 (wsl_11 _ (List.mem_of_getElem? (i := 19) rfl)) rfl dX4_packedOrder_18 rfl ?_
    refine r_iconst dX4_packedOrder_21 (by decide) ?_
    refine r_isub dX4_packedOrder_22 ?_
    refine r_istore dX4_packedOrder_23 (Or.inl rfl) (by decide) (lv' := [(5, (0, w32 ((h a0 0) - 1))), (4, (0, -1)), (0, (14, a0)), (1, (0, l1)), (2, (0, l2)), (3, (0, l3))]) rfl ?_
    refine r_sub [2, 3, 4, 5, 1, 0] (lv' := [(0, (14, a0)), (1, (0, l1)), (2, (0, l2)), (3, (0, l3)), (4, (0, -1)), (5, (0, w32 ((h a0 0) - 1)))]) rfl ?_
    exact lp_ok (w := fun (q : Int × Int) => Wq p l e R s m args below meth c D G A H0 true n0 M_X4_packedOrder x 0 0 25 [(0, (14, a0)), (1, (0, l1)), (2, (0, l2)), (3, (0, l3)), (4, (0, q.1)), (5, (0, q.2))] [] (h)) (K := K) (fun ⟨q0, q1⟩ r h1 h2 => oX4_packedOrder_s25 (K := Sum.elim (fun (q : Int × Int) => Wq p l e R s m args below meth c D G A H0 true n0 M_X4_packedOrder x 0 0 25 [(0, (14, a0)), (1, (0, l1)), (2, (0, l2)), (3, (0, l3)), (4, (0, q.1)), (5, (0, q.2))] [] (h)) (K)) (fun r z => k0 r z) (fun _ _ _ z => k1 _ _ _ z) (fun _ _ z => z) h1 h2) hr hk
set_option maxRecDepth 100000 in
set_option maxHeartbeats 4000000 in
theorem oX4_packedOrder_b0 {a0 : Int} {K : Int → Prop} (k0 : ∀ r, K (r) → x = (some (0, r), h)) {r : Int} (hr : fX4_packedOrder h a0 = some r) (hk : K r) : Wq p l e R s m args below meth c D G A H0 true n0 M_X4_packedOrder x 0 0 0 [(0, (14, a0))] [] h := by
  unfold fX4_packedOrder at hr
  refine r_iconst dX4_packedOrder_0 (by decide) ?_
  refine r_istore_n dX4_packedOrder_1 rfl (Or.inl rfl) (by decide) (lv' := [(1, (0, 0)), (0, (14, a0))]) rfl ?_
  refine r_iconst dX4_packedOrder_2 (by decide) ?_
  refine r_istore_n dX4_packedOrder_3 rfl (Or.inl rfl) (by decide) (lv' := [(2, (0, 0)), (1, (0, 0)), (0, (14, a0))]) rfl ?_
  refine r_iconst dX4_packedOrder_4 (by decide) ?_
  refine r_istore_n dX4_packedOrder_5 rfl (Or.inl rfl) (by decide) (lv' := [(3, (0, 0)), (2, (0, 0)), (1, (0, 0)), (0, (14, a0))]) rfl ?_
  refine r_sub [3, 2, 1, 0] (lv' := [(0, (14, a0)), (1, (0, 0)), (2, (0, 0)), (3, (0, 0))]) rfl ?_
  exact lp_ok (w := fun (q : Int × Int × Int) => Wq p l e R s m args below meth c D G A H0 true n0 M_X4_packedOrder x 0 0 6 [(0, (14, a0)), (1, (0, q.1)), (2, (0, q.2.1)), (3, (0, q.2.2))] [] (h)) (K := K) (fun ⟨q0, q1, q2⟩ r h1 h2 => oX4_packedOrder_s6 (K := Sum.elim (fun (q : Int × Int × Int) => Wq p l e R s m args below meth c D G A H0 true n0 M_X4_packedOrder x 0 0 6 [(0, (14, a0)), (1, (0, q.1)), (2, (0, q.2.1)), (3, (0, q.2.2))] [] (h)) (K)) (fun r z => k0 r z) (fun _ _ _ z => z) h1 h2) hr hk
end M_X4_packedOrder
theorem oX4_packedOrder {l : Launch} {D : va_G} {G : gG} {h : hH} {a0 : Int} {r : Int} (hr : fX4_packedOrder h a0 = some r) : Ctr l D G true yX4_packedOrder M_X4_packedOrder [(14, a0)] h (some (0, r), h) :=
  Ctr_of (by decide) rfl (fun z => by cases z) (nl rfl) (fun {p e R s m args below meth c A H0} => by
    exact oX4_packedOrder_b0 (K := fun z9 => z9 = r) (fun r9 z => by rw [z]) hr rfl)
/-! X5_isFull -/
theorem dX5_isFull_0 : decode cX5_isFull 0 = .ok (.iload_n 1, 1) := by decide +kernel
theorem dX5_isFull_1 : decode cX5_isFull 1 = .ok (.sipush 128, 3) := by decide +kernel
theorem dX5_isFull_4 : decode cX5_isFull 4 = .ok (.if_icmp .ne 14, 3) := by decide +kernel
theorem dX5_isFull_7 : decode cX5_isFull 7 = .ok (.aload_n 0, 1) := by decide +kernel
theorem dX5_isFull_8 : decode cX5_isFull 8 = .ok (.getfield 12, 3) := by decide +kernel
theorem dX5_isFull_11 : decode cX5_isFull 11 = .ok (.getfield 67, 3) := by decide +kernel
theorem dX5_isFull_14 : decode cX5_isFull 14 = .ok (.iconst 4, 1) := by decide +kernel
theorem dX5_isFull_15 : decode cX5_isFull 15 = .ok (.if_icmp .ge 60, 3) := by decide +kernel
theorem dX5_isFull_18 : decode cX5_isFull 18 = .ok (.iload_n 1, 1) := by decide +kernel
theorem dX5_isFull_19 : decode cX5_isFull 19 = .ok (.sipush 129, 3) := by decide +kernel
theorem dX5_isFull_22 : decode cX5_isFull 22 = .ok (.if_icmp .ne 15, 3) := by decide +kernel
theorem dX5_isFull_25 : decode cX5_isFull 25 = .ok (.aload_n 0, 1) := by decide +kernel
theorem dX5_isFull_26 : decode cX5_isFull 26 = .ok (.getfield 12, 3) := by decide +kernel
theorem dX5_isFull_29 : decode cX5_isFull 29 = .ok (.getfield 70, 3) := by decide +kernel
theorem dX5_isFull_32 : decode cX5_isFull 32 = .ok (.bipush 6, 2) := by decide +kernel
theorem dX5_isFull_34 : decode cX5_isFull 34 = .ok (.if_icmp .ge 41, 3) := by decide +kernel
theorem dX5_isFull_37 : decode cX5_isFull 37 = .ok (.iload_n 1, 1) := by decide +kernel
theorem dX5_isFull_38 : decode cX5_isFull 38 = .ok (.sipush 130, 3) := by decide +kernel
theorem dX5_isFull_41 : decode cX5_isFull 41 = .ok (.if_icmp .ne 15, 3) := by decide +kernel
theorem dX5_isFull_44 : decode cX5_isFull 44 = .ok (.aload_n 0, 1) := by decide +kernel
theorem dX5_isFull_45 : decode cX5_isFull 45 = .ok (.getfield 12, 3) := by decide +kernel
theorem dX5_isFull_48 : decode cX5_isFull 48 = .ok (.getfield 73, 3) := by decide +kernel
theorem dX5_isFull_51 : decode cX5_isFull 51 = .ok (.bipush 6, 2) := by decide +kernel
theorem dX5_isFull_53 : decode cX5_isFull 53 = .ok (.if_icmp .ge 22, 3) := by decide +kernel
theorem dX5_isFull_56 : decode cX5_isFull 56 = .ok (.iload_n 1, 1) := by decide +kernel
theorem dX5_isFull_57 : decode cX5_isFull 57 = .ok (.sipush 140, 3) := by decide +kernel
theorem dX5_isFull_60 : decode cX5_isFull 60 = .ok (.if_icmp .ne 19, 3) := by decide +kernel
theorem dX5_isFull_63 : decode cX5_isFull 63 = .ok (.aload_n 0, 1) := by decide +kernel
theorem dX5_isFull_64 : decode cX5_isFull 64 = .ok (.getfield 12, 3) := by decide +kernel
theorem dX5_isFull_67 : decode cX5_isFull 67 = .ok (.getfield 76, 3) := by decide +kernel
theorem dX5_isFull_70 : decode cX5_isFull 70 = .ok (.bipush 6, 2) := by decide +kernel
theorem dX5_isFull_72 : decode cX5_isFull 72 = .ok (.if_icmp .lt 7, 3) := by decide +kernel
theorem dX5_isFull_75 : decode cX5_isFull 75 = .ok (.iconst 1, 1) := by decide +kernel
theorem dX5_isFull_76 : decode cX5_isFull 76 = .ok (.goto 4, 3) := by decide +kernel
theorem dX5_isFull_79 : decode cX5_isFull 79 = .ok (.iconst 0, 1) := by decide +kernel
theorem dX5_isFull_80 : decode cX5_isFull 80 = .ok (.ireturn, 1) := by decide +kernel
abbrev M_X5_isFull : mM := (cX5_isFull, 2, RX5, some .boolean, false, 0, 0, 0, 0)
theorem gX5_isFull : cI yX5_isFull M_X5_isFull 1 := ⟨(wsl_16 _ (List.mem_of_getElem? (i := 3) rfl)), (wsl_16 _ (List.mem_of_getElem? (i := 4) rfl)), (wsl_2 _ (List.mem_of_getElem? (i := 7) rfl)), (wsl_16 _ (List.mem_of_getElem? (i := 5) rfl)), by decide +kernel⟩
noncomputable def fX5_isFull_b75 (h : hH) : Option (Int) :=
  some 1
noncomputable def fX5_isFull_b56 (h : hH) (a0 a1 : Int) : Option (Int) :=
  if a1 = 140 then
    if h (h a0 1) 3 < 6 then
      some 0
    else
      fX5_isFull_b75 h
  else
    some 0
noncomputable def fX5_isFull_b37 (h : hH) (a0 a1 : Int) : Option (Int) :=
  if a1 = 130 then
    if h (h a0 1) 2 < 6 then
      fX5_isFull_b56 h a0 a1
    else
      fX5_isFull_b75 h
  else
    fX5_isFull_b56 h a0 a1
noncomputable def fX5_isFull_b18 (h : hH) (a0 a1 : Int) : Option (Int) :=
  if a1 = 129 then
    if h (h a0 1) 1 < 6 then
      fX5_isFull_b37 h a0 a1
    else
      fX5_isFull_b75 h
  else
    fX5_isFull_b37 h a0 a1
noncomputable def fX5_isFull (h : hH) (a0 a1 : Int) : Option (Int) :=
  if a1 = 128 then
    if h (h a0 1) 0 < 4 then
      fX5_isFull_b18 h a0 a1
    else
      fX5_isFull_b75 h
  else
    fX5_isFull_b18 h a0 a1
section M_X5_isFull
variable {p : Program} {l : Launch} {e : Env} {R : Room} {s : State} {m : MethodId} {args : Array Value} {below : List Frame} {meth : Method} {c : Code} {D : va_G} {G : gG} {A : Nat → Prop} {H0 : Heap} {n0 : Int} {x : Option vV × hH} {h : hH}
set_option maxRecDepth 100000 in
set_option maxHeartbeats 4000000 in
theorem oX5_isFull_b75 {K : Int → Prop} (k0 : ∀ r, K (r) → x = (some (2, r), h)) {r : Int} (hr : fX5_isFull_b75 h  = some r) (hk : K r) : Wq p l e R s m args below meth c D G A H0 true n0 M_X5_isFull x 0 0 75 [] [] h := by
  unfold fX5_isFull_b75 at hr
  refine r_iconst dX5_isFull_75 (by decide) ?_
  refine r_goto dX5_isFull_76 (tgt := 80) (by decide) ?_
  refine r_scast 0 (v := (0, 1)) (w := (2, 1)) rfl cz (fun _ => Or.inr rfl) (st' := [(2, 1)]) rfl ?_
  obtain rfl := Option.some.inj hr
  exact r_ret dX5_isFull_80 rfl (Or.inr ⟨rfl, rfl⟩) (k0 _ hk) ⟨rfl, rfl⟩
set_option maxRecDepth 100000 in
set_option maxHeartbeats 4000000 in
theorem oX5_isFull_b56 {a0 a1 : Int} {K : Int → Prop} (k0 : ∀ r, K (r) → x = (some (2, r), h)) {r : Int} (hr : fX5_isFull_b56 h a0 a1 = some r) (hk : K r) : Wq p l e R s m args below meth c D G A H0 true n0 M_X5_isFull x 0 0 56 [(0, (15, a0)), (1, (0, a1))] [] h := by
  unfold fX5_isFull_b56 at hr
  refine r_iload_n dX5_isFull_56 rfl 1 rfl (Or.inl rfl) ?_
  refine r_sipush dX5_isFull_57 (by decide) (by decide) ?_
  refine r_icmp_ne dX5_isFull_60 (tgt := 79) (by decide) (fun hc => ?_) (fun hc => ?_)
  · have hr := ifn hr hc
    refine r_iconst dX5_isFull_79 (by decide) ?_
    refine r_scast 0 (v := (0, 0)) (w := (2, 0)) rfl cz (fun _ => Or.inl rfl) (st' := [(2, 0)]) rfl ?_
    obtain rfl := Option.some.inj hr
    exact r_ret dX5_isFull_80 rfl (Or.inr ⟨rfl, rfl⟩) (k0 _ hk) ⟨rfl, rfl⟩
  · have hr := ifp hr hc
    refine r_aload_n dX5_isFull_63 rfl 0 rfl (nl rfl) ?_
    refine r_get 5 1 (o := a0) (w := (14, h a0 1)) (T := TX5) (ref := "FollowingRefs$SchemaReader") rfl (by decide) rfl (by decide) inlX5 (wsl_4 _ (List.mem_of_getElem? (i := 23) rfl)) rfl dX5_isFull_64 rfl ?_
    refine r_get 4 3 (o := h a0 1) (w := (0, h (h a0 1) 3)) (T := TX4) (ref := "FollowingRefs$Schema") rfl (by decide) rfl (by decide) inlX4 (wsl_16 _ (List.mem_of_getElem? (i := 9) rfl)) rfl dX5_isFull_67 rfl ?_
    refine r_bipush dX5_isFull_70 (by decide) (by decide) ?_
    refine r_icmp_lt dX5_isFull_72 (tgt := 79) (by decide) (fun hc => ?_) (fun hc => ?_)
    · have hr := ifp hr hc
      refine r_iconst dX5_isFull_79 (by decide) ?_
      refine r_scast 0 (v := (0, 0)) (w := (2, 0)) rfl cz (fun _ => Or.inl rfl) (st' := [(2, 0)]) rfl ?_
      obtain rfl := Option.some.inj hr
      exact r_ret dX5_isFull_80 rfl (Or.inr ⟨rfl, rfl⟩) (k0 _ hk) ⟨rfl, rfl⟩
    · have hr := ifn hr hc
      refine r_sub [] (lv' := []) rfl ?_
      exact oX5_isFull_b75 (K := K) (fun r z => k0 r z) hr hk
set_option maxRecDepth 100000 in
set_option maxHeartbeats 4000000 in
theorem oX5_isFull_b37 {a0 a1 : Int} {K : Int → Prop} (k0 : ∀ r, K (r) → x = (some (2, r), h)) {r : Int} (hr : fX5_isFull_b37 h a0 a1 = some r) (hk : K r) : Wq p l e R s m args below meth c D G A H0 true n0 M_X5_isFull x 0 0 37 [(0, (15, a0)), (1, (0, a1))] [] h := by
  unfold fX5_isFull_b37 at hr
  refine r_iload_n dX5_isFull_37 rfl 1 rfl (Or.inl rfl) ?_
  refine r_sipush dX5_isFull_38 (by decide) (by decide) ?_
  refine r_icmp_ne dX5_isFull_41 (tgt := 56) (by decide) (fun hc => ?_) (fun hc => ?_)
  · have hr := ifn hr hc
    exact oX5_isFull_b56 (K := K) (fun r z => k0 r z) hr hk
  · have hr := ifp hr hc
    refine r_aload_n dX5_isFull_44 rfl 0 rfl (nl rfl) ?_
    refine r_get 5 1 (o := a0) (w := (14, h a0 1)) (T := TX5) (ref := "FollowingRefs$SchemaReader") rfl (by decide) rfl (by decide) inlX5 (wsl_4 _ (List.mem_of_getElem? (i := 23) rfl)) rfl dX5_isFull_45 rfl ?_
    refine r_get 4 2 (o := h a0 1) (w := (0, h (h a0 1) 2)) (T := TX4) (ref := "FollowingRefs$Schema") rfl (by decide) rfl (by decide) inlX4 (wsl_16 _ (List.mem_of_getElem? (i := 8) rfl)) rfl dX5_isFull_48 rfl ?_
    refine r_bipush dX5_isFull_51 (by decide) (by decide) ?_
    refine r_icmp_ge dX5_isFull_53 (tgt := 75) (by decide) (fun hc => ?_) (fun hc => ?_)
    · have hr := ifn hr hc
      refine r_sub [] (lv' := []) rfl ?_
      exact oX5_isFull_b75 (K := K) (fun r z => k0 r z) hr hk
    · have hr := ifp hr hc
      exact oX5_isFull_b56 (K := K) (fun r z => k0 r z) hr hk
set_option maxRecDepth 100000 in
set_option maxHeartbeats 4000000 in
theorem oX5_isFull_b18 {a0 a1 : Int} {K : Int → Prop} (k0 : ∀ r, K (r) → x = (some (2, r), h)) {r : Int} (hr : fX5_isFull_b18 h a0 a1 = some r) (hk : K r) : Wq p l e R s m args below meth c D G A H0 true n0 M_X5_isFull x 0 0 18 [(0, (15, a0)), (1, (0, a1))] [] h := by
  unfold fX5_isFull_b18 at hr
  refine r_iload_n dX5_isFull_18 rfl 1 rfl (Or.inl rfl) ?_
  refine r_sipush dX5_isFull_19 (by decide) (by decide) ?_
  refine r_icmp_ne dX5_isFull_22 (tgt := 37) (by decide) (fun hc => ?_) (fun hc => ?_)
  · have hr := ifn hr hc
    exact oX5_isFull_b37 (K := K) (fun r z => k0 r z) hr hk
  · have hr := ifp hr hc
    refine r_aload_n dX5_isFull_25 rfl 0 rfl (nl rfl) ?_
    refine r_get 5 1 (o := a0) (w := (14, h a0 1)) (T := TX5) (ref := "FollowingRefs$SchemaReader") rfl (by decide) rfl (by decide) inlX5 (wsl_4 _ (List.mem_of_getElem? (i := 23) rfl)) rfl dX5_isFull_26 rfl ?_
    refine r_get 4 1 (o := h a0 1) (w := (0, h (h a0 1) 1)) (T := TX4) (ref := "FollowingRefs$Schema") rfl (by decide) rfl (by decide) inlX4 (wsl_16 _ (List.mem_of_getElem? (i := 7) rfl)) rfl dX5_isFull_29 rfl ?_
    refine r_bipush dX5_isFull_32 (by decide) (by decide) ?_
    refine r_icmp_ge dX5_isFull_34 (tgt := 75) (by decide) (fun hc => ?_) (fun hc => ?_)
    · have hr := ifn hr hc
      refine r_sub [] (lv' := []) rfl ?_
      exact oX5_isFull_b75 (K := K) (fun r z => k0 r z) hr hk
    · have hr := ifp hr hc
      exact oX5_isFull_b37 (K := K) (fun r z => k0 r z) hr hk
set_option maxRecDepth 100000 in
set_option maxHeartbeats 4000000 in
theorem oX5_isFull_b0 {a0 a1 : Int} {K : Int → Prop} (k0 : ∀ r, K (r) → x = (some (2, r), h)) {r : Int} (hr : fX5_isFull h a0 a1 = some r) (hk : K r) : Wq p l e R s m args below meth c D G A H0 true n0 M_X5_isFull x 0 0 0 [(0, (15, a0)), (1, (0, a1))] [] h := by
  unfold fX5_isFull at hr
  refine r_iload_n dX5_isFull_0 rfl 1 rfl (Or.inl rfl) ?_
  refine r_sipush dX5_isFull_1 (by decide) (by decide) ?_
  refine r_icmp_ne dX5_isFull_4 (tgt := 18) (by decide) (fun hc => ?_) (fun hc => ?_)
  · have hr := ifn hr hc
    exact oX5_isFull_b18 (K := K) (fun r z => k0 r z) hr hk
  · have hr := ifp hr hc
    refine r_aload_n dX5_isFull_7 rfl 0 rfl (nl rfl) ?_
    refine r_get 5 1 (o := a0) (w := (14, h a0 1)) (T := TX5) (ref := "FollowingRefs$SchemaReader") rfl (by decide) rfl (by decide) inlX5 (wsl_4 _ (List.mem_of_getElem? (i := 23) rfl)) rfl dX5_isFull_8 rfl ?_
    refine r_get 4 0 (o := h a0 1) (w := (0, h (h a0 1) 0)) (T := TX4) (ref := "FollowingRefs$Schema") rfl (by decide) rfl (by decide) inlX4 (wsl_16 _ (List.mem_of_getElem? (i := 6) rfl)) rfl dX5_isFull_11 rfl ?_
    refine r_iconst dX5_isFull_14 (by decide) ?_
    refine r_icmp_ge dX5_isFull_15 (tgt := 75) (by decide) (fun hc => ?_) (fun hc => ?_)
    · have hr := ifn hr hc
      refine r_sub [] (lv' := []) rfl ?_
      exact oX5_isFull_b75 (K := K) (fun r z => k0 r z) hr hk
    · have hr := ifp hr hc
      exact oX5_isFull_b18 (K := K) (fun r z => k0 r z) hr hk
end M_X5_isFull
theorem oX5_isFull {l : Launch} {D : va_G} {G : gG} {h : hH} {a0 a1 : Int} {r : Int} (hr : fX5_isFull h a0 a1 = some r) : Ctr l D G true yX5_isFull M_X5_isFull [(15, a0), (0, a1)] h (some (2, r), h) :=
  Ctr_of (by decide) rfl (fun z => by cases z) (nl rfl) (fun {p e R s m args below meth c A H0} => by
    exact oX5_isFull_b0 (K := fun z9 => z9 = r) (fun r9 z => by rw [z]) hr rfl)
