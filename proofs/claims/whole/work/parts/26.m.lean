/-! X12_thrown -/
theorem dX12_thrown_0 : decode cX12_thrown 0 = .ok (.aload_n 0, 1) := by decide +kernel
theorem dX12_thrown_1 : decode cX12_thrown 1 = .ok (.getfield 1, 3) := by decide +kernel
theorem dX12_thrown_4 : decode cX12_thrown 4 = .ok (.ireturn, 1) := by decide +kernel
abbrev M_X12_thrown : mM := (cX12_thrown, 1, RX12, some .int, false, 0, 0, 0, 0)
theorem gX12_thrown : cI yX12_thrown M_X12_thrown 0 := ⟨(wsl_55 _ (List.mem_of_getElem? (i := 18) rfl)), (wsl_55 _ (List.mem_of_getElem? (i := 19) rfl)), (wsl_1 _ (List.mem_of_getElem? (i := 5) rfl)), (wsl_55 _ (List.mem_of_getElem? (i := 20) rfl)), by decide +kernel⟩
noncomputable def fX12_thrown (h : hH) (a0 : Int) : Option (Int) :=
  some (h a0 0)
section M_X12_thrown
variable {p : Program} {l : Launch} {e : Env} {R : Room} {s : State} {m : MethodId} {args : Array Value} {below : List Frame} {meth : Method} {c : Code} {D : va_G} {G : gG} {A : Nat → Prop} {H0 : Heap} {n0 : Int} {x : Option vV × hH} {h : hH}
set_option maxRecDepth 100000 in
set_option maxHeartbeats 4000000 in
theorem oX12_thrown_b0 {a0 : Int} {K : Int → Prop} (k0 : ∀ r, K (r) → x = (some (0, r), h)) {r : Int} (hr : fX12_thrown h a0 = some r) (hk : K r) : Wq p l e R s m args below meth c D G A H0 true n0 M_X12_thrown x 0 0 0 [(0, (22, a0))] [] h := by
  unfold fX12_thrown at hr
  refine r_aload_n dX12_thrown_0 rfl 0 rfl (nl rfl) ?_
  refine r_get 12 0 (o := a0) (w := (0, h a0 0)) (T := TX12) (ref := "FollowingRefsModel") rfl (by decide) rfl (by decide) inlX12 (wsl_10 _ (List.mem_of_getElem? (i := 11) rfl)) rfl dX12_thrown_1 rfl ?_
  obtain rfl := Option.some.inj hr
  exact r_ret dX12_thrown_4 rfl (Or.inl ⟨rfl, rfl⟩) (k0 _ hk) ⟨rfl, rfl⟩
end M_X12_thrown
theorem oX12_thrown {l : Launch} {D : va_G} {G : gG} {h : hH} {a0 : Int} {r : Int} (hr : fX12_thrown h a0 = some r) : Ctr l D G true yX12_thrown M_X12_thrown [(22, a0)] h (some (0, r), h) :=
  Ctr_of (by decide) rfl (fun z => by cases z) (nl rfl) (fun {p e R s m args below meth c A H0} => by
    exact oX12_thrown_b0 (K := fun z9 => z9 = r) (fun r9 z => by rw [z]) hr rfl)
/-! X12_throwsIf -/
theorem dX12_throwsIf_0 : decode cX12_throwsIf 0 = .ok (.aload_n 0, 1) := by decide +kernel
theorem dX12_throwsIf_1 : decode cX12_throwsIf 1 = .ok (.iload_n 1, 1) := by decide +kernel
theorem dX12_throwsIf_2 : decode cX12_throwsIf 2 = .ok (.ifCond .eq 7, 3) := by decide +kernel
theorem dX12_throwsIf_5 : decode cX12_throwsIf 5 = .ok (.iconst 1, 1) := by decide +kernel
theorem dX12_throwsIf_6 : decode cX12_throwsIf 6 = .ok (.goto 4, 3) := by decide +kernel
theorem dX12_throwsIf_9 : decode cX12_throwsIf 9 = .ok (.iconst 0, 1) := by decide +kernel
theorem dX12_throwsIf_10 : decode cX12_throwsIf 10 = .ok (.putfield 1, 3) := by decide +kernel
theorem dX12_throwsIf_13 : decode cX12_throwsIf 13 = .ok (.iload_n 1, 1) := by decide +kernel
theorem dX12_throwsIf_14 : decode cX12_throwsIf 14 = .ok (.ireturn, 1) := by decide +kernel
abbrev M_X12_throwsIf : mM := (cX12_throwsIf, 2, RX12, some .boolean, false, 0, 0, 0, 0)
theorem gX12_throwsIf : cI yX12_throwsIf M_X12_throwsIf 1 := ⟨(wsl_55 _ (List.mem_of_getElem? (i := 14) rfl)), (wsl_55 _ (List.mem_of_getElem? (i := 15) rfl)), (wsl_1 _ (List.mem_of_getElem? (i := 5) rfl)), (wsl_55 _ (List.mem_of_getElem? (i := 16) rfl)), by decide +kernel⟩
noncomputable def fX12_throwsIf_b10 (h : hH) (a1 s0 s1 : Int) : Option (Int × hH) :=
  (pput h s1 0 s0).bind fun h10 =>
  some (a1, h10)
noncomputable def fX12_throwsIf (h : hH) (a0 a1 : Int) : Option (Int × hH) :=
  if a1 = 0 then
    fX12_throwsIf_b10 h a1 0 a0
  else
    fX12_throwsIf_b10 h a1 1 a0
section M_X12_throwsIf
variable {p : Program} {l : Launch} {e : Env} {R : Room} {s : State} {m : MethodId} {args : Array Value} {below : List Frame} {meth : Method} {c : Code} {D : va_G} {G : gG} {A : Nat → Prop} {H0 : Heap} {n0 : Int} {x : Option vV × hH} {h : hH}
set_option maxRecDepth 100000 in
set_option maxHeartbeats 4000000 in
theorem oX12_throwsIf_b10 {a1 s0 s1 : Int} {K : Int × hH → Prop} (k0 : ∀ r, K (r) → x = (some (2, r.1), r.2)) {r : Int × hH} (hr : fX12_throwsIf_b10 h a1 s0 s1 = some r) (hk : K r) : Wq p l e R s m args below meth c D G A H0 true n0 M_X12_throwsIf x 0 0 10 [(1, (2, a1))] [(2, s0), (22, s1)] h := by
  unfold fX12_throwsIf_b10 at hr
  refine r_scast 0 (v := (2, s0)) (w := (0, s0)) rfl zc hTz (st' := [(0, s0), (22, s1)]) rfl ?_
  obtain ⟨h10, hg10, hr⟩ := bnd hr
  refine r_put' 12 0 (t := 0) (ref := "FollowingRefsModel") hg10 rfl tyX12 tyX12_ok nmX12 rfl (by decide) rfl (by decide) inlX12 (wsl_10 _ (List.mem_of_getElem? (i := 11) rfl)) rfl rfl (by decide +kernel) (by decide) rfl (Or.inl ⟨rfl, rfl⟩) dX12_throwsIf_10 ?_
  refine r_iload_n dX12_throwsIf_13 rfl 0 rfl (Or.inr rfl) ?_
  obtain rfl := Option.some.inj hr
  exact r_ret dX12_throwsIf_14 rfl (Or.inr ⟨rfl, rfl⟩) (k0 _ hk) ⟨rfl, rfl⟩
set_option maxRecDepth 100000 in
set_option maxHeartbeats 4000000 in
theorem oX12_throwsIf_b0 {a0 a1 : Int} {K : Int × hH → Prop} (k0 : ∀ r, K (r) → x = (some (2, r.1), r.2)) {r : Int × hH} (hr : fX12_throwsIf h a0 a1 = some r) (hk : K r) : Wq p l e R s m args below meth c D G A H0 true n0 M_X12_throwsIf x 0 0 0 [(0, (22, a0)), (1, (2, a1))] [] h := by
  unfold fX12_throwsIf at hr
  refine r_aload_n dX12_throwsIf_0 rfl 0 rfl (nl rfl) ?_
  refine r_iload_n dX12_throwsIf_1 rfl 1 rfl (Or.inr rfl) ?_
  refine r_scast 0 (v := (2, a1)) (w := (0, a1)) rfl zc hTz (st' := [(0, a1), (22, a0)]) rfl ?_
  refine r_if_eq dX12_throwsIf_2 (tgt := 9) (by decide) (fun hc => ?_) (fun hc => ?_)
  · have hr := ifp hr hc
    refine r_iconst dX12_throwsIf_9 (by decide) ?_
    refine r_sub [1] (lv' := [(1, (2, a1))]) rfl ?_
    refine r_scast 0 (v := (0, 0)) (w := (2, 0)) rfl cz (fun _ => Or.inl rfl) (st' := [(2, 0), (22, a0)]) rfl ?_
    exact oX12_throwsIf_b10 (K := K) (fun r z => k0 r z) hr hk
  · have hr := ifn hr hc
    refine r_iconst dX12_throwsIf_5 (by decide) ?_
    refine r_goto dX12_throwsIf_6 (tgt := 10) (by decide) ?_
    refine r_sub [1] (lv' := [(1, (2, a1))]) rfl ?_
    refine r_scast 0 (v := (0, 1)) (w := (2, 1)) rfl cz (fun _ => Or.inr rfl) (st' := [(2, 1), (22, a0)]) rfl ?_
    exact oX12_throwsIf_b10 (K := K) (fun r z => k0 r z) hr hk
end M_X12_throwsIf
theorem oX12_throwsIf {l : Launch} {D : va_G} {G : gG} {h : hH} {a0 a1 : Int} {r : Int × hH} (hr : fX12_throwsIf h a0 a1 = some r) : Ctr l D G true yX12_throwsIf M_X12_throwsIf [(22, a0), (2, a1)] h (some (2, r.1), r.2) :=
  Ctr_of (by decide) rfl (fun z => by cases z) (nl rfl) (fun {p e R s m args below meth c A H0} => by
    exact oX12_throwsIf_b0 (K := fun z9 => z9 = r) (fun r9 z => by rw [z]) hr rfl)
/-! X12_four -/
theorem dX12_four_0 : decode cX12_four 0 = .ok (.bipush 24, 2) := by decide +kernel
theorem dX12_four_2 : decode cX12_four 2 = .ok (.istore_n 2, 1) := by decide +kernel
theorem dX12_four_3 : decode cX12_four 3 = .ok (.iload_n 2, 1) := by decide +kernel
theorem dX12_four_4 : decode cX12_four 4 = .ok (.ifCond .lt 32, 3) := by decide +kernel
theorem dX12_four_7 : decode cX12_four 7 = .ok (.aload_n 0, 1) := by decide +kernel
theorem dX12_four_8 : decode cX12_four 8 = .ok (.getfield 14, 3) := by decide +kernel
theorem dX12_four_11 : decode cX12_four 11 = .ok (.aload_n 0, 1) := by decide +kernel
theorem dX12_four_12 : decode cX12_four 12 = .ok (.getfield 7, 3) := by decide +kernel
theorem dX12_four_15 : decode cX12_four 15 = .ok (.iload_n 1, 1) := by decide +kernel
theorem dX12_four_16 : decode cX12_four 16 = .ok (.iload_n 2, 1) := by decide +kernel
theorem dX12_four_17 : decode cX12_four 17 = .ok (.ishr, 1) := by decide +kernel
theorem dX12_four_18 : decode cX12_four 18 = .ok (.i2b, 1) := by decide +kernel
theorem dX12_four_19 : decode cX12_four 19 = .ok (.bastore, 1) := by decide +kernel
theorem dX12_four_20 : decode cX12_four 20 = .ok (.aload_n 0, 1) := by decide +kernel
theorem dX12_four_21 : decode cX12_four 21 = .ok (.dup, 1) := by decide +kernel
theorem dX12_four_22 : decode cX12_four 22 = .ok (.getfield 7, 3) := by decide +kernel
theorem dX12_four_25 : decode cX12_four 25 = .ok (.iconst 1, 1) := by decide +kernel
theorem dX12_four_26 : decode cX12_four 26 = .ok (.iadd, 1) := by decide +kernel
theorem dX12_four_27 : decode cX12_four 27 = .ok (.putfield 7, 3) := by decide +kernel
theorem dX12_four_30 : decode cX12_four 30 = .ok (.iinc 2 (-8), 3) := by decide +kernel
theorem dX12_four_33 : decode cX12_four 33 = .ok (.goto (-30), 3) := by decide +kernel
theorem dX12_four_36 : decode cX12_four 36 = .ok (.return_, 1) := by decide +kernel
abbrev M_X12_four : mM := (cX12_four, 3, RX12, none, false, 0, 0, 0, 0)
theorem gX12_four : cI yX12_four M_X12_four 1 := ⟨(wsl_10 _ (List.mem_of_getElem? (i := 14) rfl)), (wsl_10 _ (List.mem_of_getElem? (i := 15) rfl)), (wsl_1 _ (List.mem_of_getElem? (i := 5) rfl)), (wsl_10 _ (List.mem_of_getElem? (i := 16) rfl)), by decide +kernel⟩
noncomputable def fX12_four_s3 (h0 : hH) (a0 a1 : Int) : hH × Int → Option ((hH × Int) ⊕ (hH)) := fun (h, l2) =>
  if l2 < 0 then
    some (.inr (h))
  else
    (aput h (h a0 1) (h a0 2) (i2bD (i2bD (isrD a1 l2)))).bind fun h19 =>
    (pput h19 a0 2 (w32 ((h19 a0 2) + 1))).bind fun h27 =>
    some (.inl (h27, w32 (l2 + (-8))))
noncomputable def fX12_four (h : hH) (a0 a1 : Int) : Option (hH) :=
  lpO (fX12_four_s3 h a0 a1) (h, 24)
section M_X12_four
variable {p : Program} {l : Launch} {e : Env} {R : Room} {s : State} {m : MethodId} {args : Array Value} {below : List Frame} {meth : Method} {c : Code} {D : va_G} {G : gG} {A : Nat → Prop} {H0 : Heap} {n0 : Int} {x : Option vV × hH} {h : hH}
set_option maxRecDepth 100000 in
set_option maxHeartbeats 4000000 in
theorem oX12_four_s3 {h0 : hH} {a0 a1 l2 : Int} {K : (hH × Int) ⊕ (hH) → Prop} (k0 : ∀ r, K (.inr (r)) → x = (none, r)) (k1 : ∀ (h : hH) (l2 : Int), K (.inl (h, l2)) → Wq p l e R s m args below meth c D G A H0 true n0 M_X12_four x 0 0 3 [(0, (22, a0)), (1, (0, a1)), (2, (0, l2))] [] h) {r : (hH × Int) ⊕ (hH)} (hr : fX12_four_s3 h0 a0 a1 (h, l2) = some r) (hk : K r) : Wq p l e R s m args below meth c D G A H0 true n0 M_X12_four x 0 0 3 [(0, (22, a0)), (1, (0, a1)), (2, (0, l2))] [] h := by
  unfold fX12_four_s3 at hr
  refine r_iload_n dX12_four_3 rfl 2 rfl (Or.inl rfl) ?_
  refine r_if_lt dX12_four_4 (tgt := 36) (by decide) (fun hc => ?_) (fun hc => ?_)
  · have hr := ifp hr hc
    obtain rfl := Option.some.inj hr
    exact r_vret dX12_four_36 rfl (k0 _ hk) ⟨rfl, rfl⟩
  · have hr := ifn hr hc
    refine r_aload_n dX12_four_7 rfl 0 rfl (nl rfl) ?_
    refine r_get 12 1 (o := a0) (w := (52, h a0 1)) (T := TX12) (ref := "FollowingRefsModel") rfl (by decide) rfl (by decide) inlX12 (wsl_7 _ (List.mem_of_getElem? (i := 7) rfl)) rfl dX12_four_8 rfl ?_
    refine r_aload_n dX12_four_11 rfl 0 rfl (nl rfl) ?_
    refine r_get 12 2 (o := a0) (w := (0, h a0 2)) (T := TX12) (ref := "FollowingRefsModel") rfl (by decide) rfl (by decide) inlX12 (wsl_10 _ (List.mem_of_getElem? (i := 12) rfl)) rfl dX12_four_12 rfl ?_
    refine r_iload_n dX12_four_15 rfl 1 rfl (Or.inl rfl) ?_
    refine r_iload_n dX12_four_16 rfl 2 rfl (Or.inl rfl) ?_
    refine r_ishr dX12_four_17 ?_
    refine r_i2b dX12_four_18 ?_
    obtain ⟨h19, hg19, hr⟩ := bnd hr
    refine r_bast dX12_four_19 hg19 ?_
    refine r_aload_n dX12_four_20 rfl 0 rfl (nl rfl) ?_
    refine r_dup dX12_four_21 (Nat.ne_of_beq_eq_false rfl) ?_
    refine r_get 12 2 (o := a0) (w := (0, h19 a0 2)) (T := TX12) (ref := "FollowingRefsModel") rfl (by decide) rfl (by decide) inlX12 (wsl_10 _ (List.mem_of_getElem? (i := 12) rfl)) rfl dX12_four_22 rfl ?_
    refine r_iconst dX12_four_25 (by decide) ?_
    refine r_iadd dX12_four_26 ?_
    obtain ⟨h27, hg27, hr⟩ := bnd hr
    refine r_put' 12 2 (t := 0) (ref := "FollowingRefsModel") hg27 rfl tyX12 tyX12_ok nmX12 rfl (by decide) rfl (by decide) inlX12 (wsl_10 _ (List.mem_of_getElem? (i := 12) rfl)) rfl rfl (by decide +kernel) (by decide) rfl (Or.inl ⟨rfl, rfl⟩) dX12_four_27 ?_
    refine r_iinc (k := 2) (v := l2) dX12_four_30 rfl (by decide) (lv' := [(2, (0, w32 (l2 + (-8)))), (0, (22, a0)), (1, (0, a1))]) rfl ?_
    refine r_goto dX12_four_33 (tgt := 3) (by decide) ?_
    refine r_sub [1, 2, 0] (lv' := [(0, (22, a0)), (1, (0, a1)), (2, (0, w32 (l2 + (-8))))]) rfl ?_
    obtain rfl := Option.some.inj hr
    exact k1 _ _ hk
set_option maxRecDepth 100000 in
set_option maxHeartbeats 4000000 in
theorem oX12_four_b0 {a0 a1 : Int} {K : hH → Prop} (k0 : ∀ r, K (r) → x = (none, r)) {r : hH} (hr : fX12_four h a0 a1 = some r) (hk : K r) : Wq p l e R s m args below meth c D G A H0 true n0 M_X12_four x 0 0 0 [(0, (22, a0)), (1, (0, a1))] [] h := by
  unfold fX12_four at hr
  refine r_bipush dX12_four_0 (by decide) (by decide) ?_
  refine r_istore_n dX12_four_2 rfl (Or.inl rfl) (by decide) (lv' := [(2, (0, 24)), (0, (22, a0)), (1, (0, a1))]) rfl ?_
  refine r_sub [1, 2, 0] (lv' := [(0, (22, a0)), (1, (0, a1)), (2, (0, 24))]) rfl ?_
  exact lp_ok (w := fun (q : hH × Int) => Wq p l e R s m args below meth c D G A H0 true n0 M_X12_four x 0 0 3 [(0, (22, a0)), (1, (0, a1)), (2, (0, q.2))] [] (q.1)) (K := K) (fun ⟨q0, q1⟩ r h1 h2 => oX12_four_s3 (K := Sum.elim (fun (q : hH × Int) => Wq p l e R s m args below meth c D G A H0 true n0 M_X12_four x 0 0 3 [(0, (22, a0)), (1, (0, a1)), (2, (0, q.2))] [] (q.1)) (K)) (fun r z => k0 r z) (fun _ _ z => z) h1 h2) hr hk
end M_X12_four
theorem oX12_four {l : Launch} {D : va_G} {G : gG} {h : hH} {a0 a1 : Int} {r : hH} (hr : fX12_four h a0 a1 = some r) : Ctr l D G true yX12_four M_X12_four [(22, a0), (0, a1)] h (none, r) :=
  Ctr_of (by decide) rfl (fun z => by cases z) (nl rfl) (fun {p e R s m args below meth c A H0} => by
    exact oX12_four_b0 (K := fun z9 => z9 = r) (fun r9 z => by rw [z]) hr rfl)
/-! X12_feed -/
theorem dX12_feed_0 : decode cX12_feed 0 = .ok (.aload_n 0, 1) := by decide +kernel
theorem dX12_feed_1 : decode cX12_feed 1 = .ok (.iconst 0, 1) := by decide +kernel
theorem dX12_feed_2 : decode cX12_feed 2 = .ok (.putfield 1, 3) := by decide +kernel
theorem dX12_feed_5 : decode cX12_feed 5 = .ok (.aload_n 0, 1) := by decide +kernel
theorem dX12_feed_6 : decode cX12_feed 6 = .ok (.getfield 7, 3) := by decide +kernel
theorem dX12_feed_9 : decode cX12_feed 9 = .ok (.bipush 20, 2) := by decide +kernel
theorem dX12_feed_11 : decode cX12_feed 11 = .ok (.iadd, 1) := by decide +kernel
theorem dX12_feed_12 : decode cX12_feed 12 = .ok (.sipush 940, 3) := by decide +kernel
theorem dX12_feed_15 : decode cX12_feed 15 = .ok (.if_icmp .le 5, 3) := by decide +kernel
theorem dX12_feed_18 : decode cX12_feed 18 = .ok (.iconst (-1), 1) := by decide +kernel
theorem dX12_feed_19 : decode cX12_feed 19 = .ok (.ireturn, 1) := by decide +kernel
theorem dX12_feed_20 : decode cX12_feed 20 = .ok (.aload_n 0, 1) := by decide +kernel
theorem dX12_feed_21 : decode cX12_feed 21 = .ok (.iload_n 1, 1) := by decide +kernel
theorem dX12_feed_22 : decode cX12_feed 22 = .ok (.invokevirtual 10, 3) := by decide +kernel
theorem dX12_feed_25 : decode cX12_feed 25 = .ok (.aload_n 0, 1) := by decide +kernel
theorem dX12_feed_26 : decode cX12_feed 26 = .ok (.iload_n 2, 1) := by decide +kernel
theorem dX12_feed_27 : decode cX12_feed 27 = .ok (.invokevirtual 10, 3) := by decide +kernel
theorem dX12_feed_30 : decode cX12_feed 30 = .ok (.aload_n 0, 1) := by decide +kernel
theorem dX12_feed_31 : decode cX12_feed 31 = .ok (.iload_n 3, 1) := by decide +kernel
theorem dX12_feed_32 : decode cX12_feed 32 = .ok (.invokevirtual 10, 3) := by decide +kernel
theorem dX12_feed_35 : decode cX12_feed 35 = .ok (.aload_n 0, 1) := by decide +kernel
theorem dX12_feed_36 : decode cX12_feed 36 = .ok (.iload 4, 2) := by decide +kernel
theorem dX12_feed_38 : decode cX12_feed 38 = .ok (.invokevirtual 10, 3) := by decide +kernel
theorem dX12_feed_41 : decode cX12_feed 41 = .ok (.aload_n 0, 1) := by decide +kernel
theorem dX12_feed_42 : decode cX12_feed 42 = .ok (.iload 5, 2) := by decide +kernel
theorem dX12_feed_44 : decode cX12_feed 44 = .ok (.invokevirtual 10, 3) := by decide +kernel
theorem dX12_feed_47 : decode cX12_feed 47 = .ok (.aload_n 0, 1) := by decide +kernel
theorem dX12_feed_48 : decode cX12_feed 48 = .ok (.getfield 7, 3) := by decide +kernel
theorem dX12_feed_51 : decode cX12_feed 51 = .ok (.ireturn, 1) := by decide +kernel
abbrev M_X12_feed : mM := (cX12_feed, 6, RX12, some .int, false, 1, 22, 0, 0)
theorem gX12_feed : cI yX12_feed M_X12_feed 5 := ⟨(wsl_10 _ (List.mem_of_getElem? (i := 8) rfl)), (wsl_10 _ (List.mem_of_getElem? (i := 9) rfl)), (wsl_1 _ (List.mem_of_getElem? (i := 5) rfl)), (wsl_10 _ (List.mem_of_getElem? (i := 10) rfl)), by decide +kernel⟩
noncomputable def fX12_feed (h : hH) (a0 a1 a2 a3 a4 a5 : Int) : Option (Int × hH) :=
  (pput h a0 0 0).bind fun h2 =>
  if 940 < w32 ((h2 a0 2) + 20) then
    some (-1, h2)
  else
    (fX12_four h2 a0 a1).bind fun h22 =>
    (fX12_four h22 a0 a2).bind fun h27 =>
    (fX12_four h27 a0 a3).bind fun h32 =>
    (fX12_four h32 a0 a4).bind fun h38 =>
    (fX12_four h38 a0 a5).bind fun h44 =>
    some (h44 a0 2, h44)
section M_X12_feed
variable {p : Program} {l : Launch} {e : Env} {R : Room} {s : State} {m : MethodId} {args : Array Value} {below : List Frame} {meth : Method} {c : Code} {D : va_G} {G : gG} {A : Nat → Prop} {H0 : Heap} {n0 : Int} {x : Option vV × hH} {h : hH}
set_option maxRecDepth 100000 in
set_option maxHeartbeats 4000000 in
theorem oX12_feed_b0 {a0 a1 a2 a3 a4 a5 : Int} {K : Int × hH → Prop} (k0 : ∀ r, K (r) → x = (some (0, r.1), r.2)) {r : Int × hH} (hr : fX12_feed h a0 a1 a2 a3 a4 a5 = some r) (hk : K r) : Wq p l e R s m args below meth c D G A H0 true n0 M_X12_feed x 0 0 0 [(0, (22, a0)), (1, (0, a1)), (2, (0, a2)), (3, (0, a3)), (4, (0, a4)), (5, (0, a5))] [] h := by
  unfold fX12_feed at hr
  refine r_aload_n dX12_feed_0 rfl 0 rfl (nl rfl) ?_
  refine r_iconst dX12_feed_1 (by decide) ?_
  obtain ⟨h2, hg2, hr⟩ := bnd hr
  refine r_put' 12 0 (t := 0) (ref := "FollowingRefsModel") hg2 rfl tyX12 tyX12_ok nmX12 rfl (by decide) rfl (by decide) inlX12 (wsl_10 _ (List.mem_of_getElem? (i := 11) rfl)) rfl rfl (by decide +kernel) (by decide) rfl (Or.inl ⟨rfl, rfl⟩) dX12_feed_2 ?_
  refine r_aload_n dX12_feed_5 rfl 0 rfl (nl rfl) ?_
  refine r_get 12 2 (o := a0) (w := (0, h2 a0 2)) (T := TX12) (ref := "FollowingRefsModel") rfl (by decide) rfl (by decide) inlX12 (wsl_10 _ (List.mem_of_getElem? (i := 12) rfl)) rfl dX12_feed_6 rfl ?_
  refine r_bipush dX12_feed_9 (by decide) (by decide) ?_
  refine r_iadd dX12_feed_11 ?_
  refine r_sipush dX12_feed_12 (by decide) (by decide) ?_
  refine r_icmp_le dX12_feed_15 (tgt := 20) (by decide) (fun hc => ?_) (fun hc => ?_)
  · have hr := ifn hr hc
    refine r_aload_n dX12_feed_20 rfl 0 rfl (nl rfl) ?_
    refine r_iload_n dX12_feed_21 rfl 1 rfl (Or.inl rfl) ?_
    obtain ⟨h22, hg22, hr⟩ := bnd hr
    refine k_V (ci := 12) (o := a0) (T := TX12) (as := [(0, a1)]) (rest := []) (X := (none, h22)) (oX12_four hg22) gX12_four rfl (by decide) rfl (wsl_10 _ (List.mem_of_getElem? (i := 13) rfl)) rfl dX12_feed_22 rfl ?_
    refine r_aload_n dX12_feed_25 rfl 0 rfl (nl rfl) ?_
    refine r_iload_n dX12_feed_26 rfl 2 rfl (Or.inl rfl) ?_
    obtain ⟨h27, hg27, hr⟩ := bnd hr
    refine k_V (ci := 12) (o := a0) (T := TX12) (as := [(0, a2)]) (rest := []) (X := (none, h27)) (oX12_four hg27) gX12_four rfl (by decide) rfl (wsl_10 _ (List.mem_of_getElem? (i := 13) rfl)) rfl dX12_feed_27 rfl ?_
    refine r_aload_n dX12_feed_30 rfl 0 rfl (nl rfl) ?_
    refine r_iload_n dX12_feed_31 rfl 3 rfl (Or.inl rfl) ?_
    obtain ⟨h32, hg32, hr⟩ := bnd hr
    refine k_V (ci := 12) (o := a0) (T := TX12) (as := [(0, a3)]) (rest := []) (X := (none, h32)) (oX12_four hg32) gX12_four rfl (by decide) rfl (wsl_10 _ (List.mem_of_getElem? (i := 13) rfl)) rfl dX12_feed_32 rfl ?_
    refine r_aload_n dX12_feed_35 rfl 0 rfl (nl rfl) ?_
    refine r_iload dX12_feed_36 4 rfl (Or.inl rfl) ?_
    obtain ⟨h38, hg38, hr⟩ := bnd hr
    refine k_V (ci := 12) (o := a0) (T := TX12) (as := [(0, a4)]) (rest := []) (X := (none, h38)) (oX12_four hg38) gX12_four rfl (by decide) rfl (wsl_10 _ (List.mem_of_getElem? (i := 13) rfl)) rfl dX12_feed_38 rfl ?_
    refine r_aload_n dX12_feed_41 rfl 0 rfl (nl rfl) ?_
    refine r_iload dX12_feed_42 5 rfl (Or.inl rfl) ?_
    obtain ⟨h44, hg44, hr⟩ := bnd hr
    refine k_V (ci := 12) (o := a0) (T := TX12) (as := [(0, a5)]) (rest := []) (X := (none, h44)) (oX12_four hg44) gX12_four rfl (by decide) rfl (wsl_10 _ (List.mem_of_getElem? (i := 13) rfl)) rfl dX12_feed_44 rfl ?_
    refine r_aload_n dX12_feed_47 rfl 0 rfl (nl rfl) ?_
    refine r_get 12 2 (o := a0) (w := (0, h44 a0 2)) (T := TX12) (ref := "FollowingRefsModel") rfl (by decide) rfl (by decide) inlX12 (wsl_10 _ (List.mem_of_getElem? (i := 12) rfl)) rfl dX12_feed_48 rfl ?_
    obtain rfl := Option.some.inj hr
    exact r_ret dX12_feed_51 rfl (Or.inl ⟨rfl, rfl⟩) (k0 _ hk) ⟨rfl, rfl⟩
  · have hr := ifp hr hc
    refine r_iconst dX12_feed_18 (by decide) ?_
    obtain rfl := Option.some.inj hr
    exact r_ret dX12_feed_19 rfl (Or.inl ⟨rfl, rfl⟩) (k0 _ hk) ⟨rfl, rfl⟩
end M_X12_feed
theorem oX12_feed {l : Launch} {D : va_G} {G : gG} {h : hH} {a0 a1 a2 a3 a4 a5 : Int} {r : Int × hH} (hr : fX12_feed h a0 a1 a2 a3 a4 a5 = some r) : Ctr l D G true yX12_feed M_X12_feed [(22, a0), (0, a1), (0, a2), (0, a3), (0, a4), (0, a5)] h (some (0, r.1), r.2) :=
  Ctr_of (by decide) rfl (fun z => by cases z) (nl rfl) (fun {p e R s m args below meth c A H0} => by
    exact oX12_feed_b0 (K := fun z9 => z9 = r) (fun r9 z => by rw [z]) hr rfl)
/-! X12_end -/
theorem dX12_end_0 : decode cX12_end 0 = .ok (.aload_n 0, 1) := by decide +kernel
theorem dX12_end_1 : decode cX12_end 1 = .ok (.iconst 0, 1) := by decide +kernel
theorem dX12_end_2 : decode cX12_end 2 = .ok (.putfield 1, 3) := by decide +kernel
theorem dX12_end_5 : decode cX12_end 5 = .ok (.iload_n 1, 1) := by decide +kernel
theorem dX12_end_6 : decode cX12_end 6 = .ok (.ifCond .lt 11, 3) := by decide +kernel
theorem dX12_end_9 : decode cX12_end 9 = .ok (.iload_n 1, 1) := by decide +kernel
theorem dX12_end_10 : decode cX12_end 10 = .ok (.aload_n 0, 1) := by decide +kernel
theorem dX12_end_11 : decode cX12_end 11 = .ok (.getfield 7, 3) := by decide +kernel
theorem dX12_end_14 : decode cX12_end 14 = .ok (.if_icmp .le 5, 3) := by decide +kernel
theorem dX12_end_17 : decode cX12_end 17 = .ok (.iconst 0, 1) := by decide +kernel
theorem dX12_end_18 : decode cX12_end 18 = .ok (.ireturn, 1) := by decide +kernel
theorem dX12_end_19 : decode cX12_end 19 = .ok (.aload_n 0, 1) := by decide +kernel
theorem dX12_end_20 : decode cX12_end 20 = .ok (.iload_n 1, 1) := by decide +kernel
theorem dX12_end_21 : decode cX12_end 21 = .ok (.putfield 7, 3) := by decide +kernel
theorem dX12_end_24 : decode cX12_end 24 = .ok (.iconst 1, 1) := by decide +kernel
theorem dX12_end_25 : decode cX12_end 25 = .ok (.ireturn, 1) := by decide +kernel
abbrev M_X12_end : mM := (cX12_end, 2, RX12, some .boolean, false, 0, 0, 0, 0)
theorem gX12_end : cI yX12_end M_X12_end 1 := ⟨(wsl_10 _ (List.mem_of_getElem? (i := 22) rfl)), (wsl_10 _ (List.mem_of_getElem? (i := 23) rfl)), (wsl_1 _ (List.mem_of_getElem? (i := 5) rfl)), (wsl_11 _ (List.mem_of_getElem? (i := 0) rfl)), by decide +kernel⟩
noncomputable def fX12_end (h : hH) (a0 a1 : Int) : Option (Int × hH) :=
  (pput h a0 0 0).bind fun h2 =>
  if a1 < 0 then
    some (0, h2)
  else
    if h2 a0 2 < a1 then
      some (0, h2)
    else
      (pput h2 a0 2 a1).bind fun h21 =>
      some (1, h21)
section M_X12_end
variable {p : Program} {l : Launch} {e : Env} {R : Room} {s : State} {m : MethodId} {args : Array Value} {below : List Frame} {meth : Method} {c : Code} {D : va_G} {G : gG} {A : Nat → Prop} {H0 : Heap} {n0 : Int} {x : Option vV × hH} {h : hH}
set_option maxRecDepth 100000 in
set_option maxHeartbeats 4000000 in
theorem oX12_end_b0 {a0 a1 : Int} {K : Int × hH → Prop} (k0 : ∀ r, K (r) → x = (some (2, r.1), r.2)) {r : Int × hH} (hr : fX12_end h a0 a1 = some r) (hk : K r) : Wq p l e R s m args below meth c D G A H0 true n0 M_X12_end x 0 0 0 [(0, (22, a0)), (1, (0, a1))] [] h := by
  unfold fX12_end at hr
  refine r_aload_n dX12_end_0 rfl 0 rfl (nl rfl) ?_
  refine r_iconst dX12_end_1 (by decide) ?_
  obtain ⟨h2, hg2, hr⟩ := bnd hr
  refine r_put' 12 0 (t := 0) (ref := "FollowingRefsModel") hg2 rfl tyX12 tyX12_ok nmX12 rfl (by decide) rfl (by decide) inlX12 (wsl_10 _ (List.mem_of_getElem? (i := 11) rfl)) rfl rfl (by decide +kernel) (by decide) rfl (Or.inl ⟨rfl, rfl⟩) dX12_end_2 ?_
  refine r_iload_n dX12_end_5 rfl 1 rfl (Or.inl rfl) ?_
  refine r_if_lt dX12_end_6 (tgt := 17) (by decide) (fun hc => ?_) (fun hc => ?_)
  · have hr := ifp hr hc
    refine r_iconst dX12_end_17 (by decide) ?_
    refine r_scast 0 (v := (0, 0)) (w := (2, 0)) rfl cz (fun _ => Or.inl rfl) (st' := [(2, 0)]) rfl ?_
    obtain rfl := Option.some.inj hr
    exact r_ret dX12_end_18 rfl (Or.inr ⟨rfl, rfl⟩) (k0 _ hk) ⟨rfl, rfl⟩
  · have hr := ifn hr hc
    refine r_iload_n dX12_end_9 rfl 1 rfl (Or.inl rfl) ?_
    refine r_aload_n dX12_end_10 rfl 0 rfl (nl rfl) ?_
    refine r_get 12 2 (o := a0) (w := (0, h2 a0 2)) (T := TX12) (ref := "FollowingRefsModel") rfl (by decide) rfl (by decide) inlX12 (wsl_10 _ (List.mem_of_getElem? (i := 12) rfl)) rfl dX12_end_11 rfl ?_
    refine r_icmp_le dX12_end_14 (tgt := 19) (by decide) (fun hc => ?_) (fun hc => ?_)
    · have hr := ifn hr hc
      refine r_aload_n dX12_end_19 rfl 0 rfl (nl rfl) ?_
      refine r_iload_n dX12_end_20 rfl 1 rfl (Or.inl rfl) ?_
      obtain ⟨h21, hg21, hr⟩ := bnd hr
      refine r_put' 12 2 (t := 0) (ref := "FollowingRefsModel") hg21 rfl tyX12 tyX12_ok nmX12 rfl (by decide) rfl (by decide) inlX12 (wsl_10 _ (List.mem_of_getElem? (i := 12) rfl)) rfl rfl (by decide +kernel) (by decide) rfl (Or.inl ⟨rfl, rfl⟩) dX12_end_21 ?_
      refine r_iconst dX12_end_24 (by decide) ?_
      refine r_scast 0 (v := (0, 1)) (w := (2, 1)) rfl cz (fun _ => Or.inr rfl) (st' := [(2, 1)]) rfl ?_
      obtain rfl := Option.some.inj hr
      exact r_ret dX12_end_25 rfl (Or.inr ⟨rfl, rfl⟩) (k0 _ hk) ⟨rfl, rfl⟩
    · have hr := ifp hr hc
      refine r_iconst dX12_end_17 (by decide) ?_
      refine r_scast 0 (v := (0, 0)) (w := (2, 0)) rfl cz (fun _ => Or.inl rfl) (st' := [(2, 0)]) rfl ?_
      obtain rfl := Option.some.inj hr
      exact r_ret dX12_end_18 rfl (Or.inr ⟨rfl, rfl⟩) (k0 _ hk) ⟨rfl, rfl⟩
end M_X12_end
theorem oX12_end {l : Launch} {D : va_G} {G : gG} {h : hH} {a0 a1 : Int} {r : Int × hH} (hr : fX12_end h a0 a1 = some r) : Ctr l D G true yX12_end M_X12_end [(22, a0), (0, a1)] h (some (2, r.1), r.2) :=
  Ctr_of (by decide) rfl (fun z => by cases z) (nl rfl) (fun {p e R s m args below meth c A H0} => by
    exact oX12_end_b0 (K := fun z9 => z9 = r) (fun r9 z => by rw [z]) hr rfl)
/-! X12_taken -/
theorem dX12_taken_0 : decode cX12_taken 0 = .ok (.aload_n 0, 1) := by decide +kernel
theorem dX12_taken_1 : decode cX12_taken 1 = .ok (.aload_n 0, 1) := by decide +kernel
theorem dX12_taken_2 : decode cX12_taken 2 = .ok (.getfield 7, 3) := by decide +kernel
theorem dX12_taken_5 : decode cX12_taken 5 = .ok (.putfield 18, 3) := by decide +kernel
theorem dX12_taken_8 : decode cX12_taken 8 = .ok (.aload_n 0, 1) := by decide +kernel
theorem dX12_taken_9 : decode cX12_taken 9 = .ok (.iconst 0, 1) := by decide +kernel
theorem dX12_taken_10 : decode cX12_taken 10 = .ok (.putfield 7, 3) := by decide +kernel
theorem dX12_taken_13 : decode cX12_taken 13 = .ok (.aload_n 0, 1) := by decide +kernel
theorem dX12_taken_14 : decode cX12_taken 14 = .ok (.iconst 0, 1) := by decide +kernel
theorem dX12_taken_15 : decode cX12_taken 15 = .ok (.putfield 21, 3) := by decide +kernel
theorem dX12_taken_18 : decode cX12_taken 18 = .ok (.aload_n 0, 1) := by decide +kernel
theorem dX12_taken_19 : decode cX12_taken 19 = .ok (.iload_n 1, 1) := by decide +kernel
theorem dX12_taken_20 : decode cX12_taken 20 = .ok (.putfield 24, 3) := by decide +kernel
theorem dX12_taken_23 : decode cX12_taken 23 = .ok (.return_, 1) := by decide +kernel
abbrev M_X12_taken : mM := (cX12_taken, 2, RX12, none, false, 0, 0, 0, 0)
theorem gX12_taken : cI yX12_taken M_X12_taken 1 := ⟨(wsl_23 _ (List.mem_of_getElem? (i := 18) rfl)), (wsl_23 _ (List.mem_of_getElem? (i := 19) rfl)), (wsl_1 _ (List.mem_of_getElem? (i := 5) rfl)), (wsl_23 _ (List.mem_of_getElem? (i := 20) rfl)), by decide +kernel⟩
noncomputable def fX12_taken (h : hH) (a0 a1 : Int) : Option (hH) :=
  (pput h a0 3 (h a0 2)).bind fun h5 =>
  (pput h5 a0 2 0).bind fun h10 =>
  (pput h10 a0 4 0).bind fun h15 =>
  (pput h15 a0 5 a1).bind fun h20 =>
  some h20
section M_X12_taken
variable {p : Program} {l : Launch} {e : Env} {R : Room} {s : State} {m : MethodId} {args : Array Value} {below : List Frame} {meth : Method} {c : Code} {D : va_G} {G : gG} {A : Nat → Prop} {H0 : Heap} {n0 : Int} {x : Option vV × hH} {h : hH}
set_option maxRecDepth 100000 in
set_option maxHeartbeats 4000000 in
theorem oX12_taken_b0 {a0 a1 : Int} {K : hH → Prop} (k0 : ∀ r, K (r) → x = (none, r)) {r : hH} (hr : fX12_taken h a0 a1 = some r) (hk : K r) : Wq p l e R s m args below meth c D G A H0 true n0 M_X12_taken x 0 0 0 [(0, (22, a0)), (1, (0, a1))] [] h := by
  unfold fX12_taken at hr
  refine r_aload_n dX12_taken_0 rfl 0 rfl (nl rfl) ?_
  refine r_aload_n dX12_taken_1 rfl 0 rfl (nl rfl) ?_
  refine r_get 12 2 (o := a0) (w := (0, h a0 2)) (T := TX12) (ref := "FollowingRefsModel") rfl (by decide) rfl (by decide) inlX12 (wsl_10 _ (List.mem_of_getElem? (i := 12) rfl)) rfl dX12_taken_2 rfl ?_
  obtain ⟨h5, hg5, hr⟩ := bnd hr
  refine r_put' 12 3 (t := 0) (ref := "FollowingRefsModel") hg5 rfl tyX12 tyX12_ok nmX12 rfl (by decide) rfl (by decide) inlX12 (wsl_23 _ (List.mem_of_getElem? (i := 21) rfl)) rfl rfl (by decide +kernel) (by decide) rfl (Or.inl ⟨rfl, rfl⟩) dX12_taken_5 ?_
  refine r_aload_n dX12_taken_8 rfl 0 rfl (nl rfl) ?_
  refine r_iconst dX12_taken_9 (by decide) ?_
  obtain ⟨h10, hg10, hr⟩ := bnd hr
  refine r_put' 12 2 (t := 0) (ref := "FollowingRefsModel") hg10 rfl tyX12 tyX12_ok nmX12 rfl (by decide) rfl (by decide) inlX12 (wsl_10 _ (List.mem_of_getElem? (i := 12) rfl)) rfl rfl (by decide +kernel) (by decide) rfl (Or.inl ⟨rfl, rfl⟩) dX12_taken_10 ?_
  refine r_aload_n dX12_taken_13 rfl 0 rfl (nl rfl) ?_
  refine r_iconst dX12_taken_14 (by decide) ?_
  obtain ⟨h15, hg15, hr⟩ := bnd hr
  refine r_put' 12 4 (t := 0) (ref := "FollowingRefsModel") hg15 rfl tyX12 tyX12_ok nmX12 rfl (by decide) rfl (by decide) inlX12 (wsl_23 _ (List.mem_of_getElem? (i := 22) rfl)) rfl rfl (by decide +kernel) (by decide) rfl (Or.inl ⟨rfl, rfl⟩) dX12_taken_15 ?_
  refine r_aload_n dX12_taken_18 rfl 0 rfl (nl rfl) ?_
  refine r_iload_n dX12_taken_19 rfl 1 rfl (Or.inl rfl) ?_
  obtain ⟨h20, hg20, hr⟩ := bnd hr
  refine r_put' 12 5 (t := 0) (ref := "FollowingRefsModel") hg20 rfl tyX12 tyX12_ok nmX12 rfl (by decide) rfl (by decide) inlX12 (wsl_23 _ (List.mem_of_getElem? (i := 23) rfl)) rfl rfl (by decide +kernel) (by decide) rfl (Or.inl ⟨rfl, rfl⟩) dX12_taken_20 ?_
  obtain rfl := Option.some.inj hr
  exact r_vret dX12_taken_23 rfl (k0 _ hk) ⟨rfl, rfl⟩
end M_X12_taken
theorem oX12_taken {l : Launch} {D : va_G} {G : gG} {h : hH} {a0 a1 : Int} {r : hH} (hr : fX12_taken h a0 a1 = some r) : Ctr l D G true yX12_taken M_X12_taken [(22, a0), (0, a1)] h (none, r) :=
  Ctr_of (by decide) rfl (fun z => by cases z) (nl rfl) (fun {p e R s m args below meth c A H0} => by
    exact oX12_taken_b0 (K := fun z9 => z9 = r) (fun r9 z => by rw [z]) hr rfl)
/-! X12_isIn -/
theorem dX12_isIn_0 : decode cX12_isIn 0 = .ok (.iload_n 0, 1) := by decide +kernel
theorem dX12_isIn_1 : decode cX12_isIn 1 = .ok (.iload_n 1, 1) := by decide +kernel
theorem dX12_isIn_2 : decode cX12_isIn 2 = .ok (.if_icmp .lt 12, 3) := by decide +kernel
theorem dX12_isIn_5 : decode cX12_isIn 5 = .ok (.iload_n 0, 1) := by decide +kernel
theorem dX12_isIn_6 : decode cX12_isIn 6 = .ok (.iload_n 2, 1) := by decide +kernel
theorem dX12_isIn_7 : decode cX12_isIn 7 = .ok (.if_icmp .gt 7, 3) := by decide +kernel
theorem dX12_isIn_10 : decode cX12_isIn 10 = .ok (.iconst 1, 1) := by decide +kernel
theorem dX12_isIn_11 : decode cX12_isIn 11 = .ok (.goto 4, 3) := by decide +kernel
theorem dX12_isIn_14 : decode cX12_isIn 14 = .ok (.iconst 0, 1) := by decide +kernel
theorem dX12_isIn_15 : decode cX12_isIn 15 = .ok (.ireturn, 1) := by decide +kernel
abbrev M_X12_isIn : mM := (cX12_isIn, 3, RX12, some .boolean, false, 0, 0, 0, 0)
theorem gX12_isIn : cS yX12_isIn M_X12_isIn 3 := ⟨(wsl_28 _ (List.mem_of_getElem? (i := 2) rfl)), (wsl_1 _ (List.mem_of_getElem? (i := 5) rfl)), (wsl_28 _ (List.mem_of_getElem? (i := 3) rfl)), by decide +kernel⟩
noncomputable def fX12_isIn (h : hH) (a0 a1 a2 : Int) : Option (Int) :=
  if a0 < a1 then
    some 0
  else
    if a2 < a0 then
      some 0
    else
      some 1
section M_X12_isIn
variable {p : Program} {l : Launch} {e : Env} {R : Room} {s : State} {m : MethodId} {args : Array Value} {below : List Frame} {meth : Method} {c : Code} {D : va_G} {G : gG} {A : Nat → Prop} {H0 : Heap} {n0 : Int} {x : Option vV × hH} {h : hH}
set_option maxRecDepth 100000 in
set_option maxHeartbeats 4000000 in
theorem oX12_isIn_b0 {a0 a1 a2 : Int} {K : Int → Prop} (k0 : ∀ r, K (r) → x = (some (2, r), h)) {r : Int} (hr : fX12_isIn h a0 a1 a2 = some r) (hk : K r) : Wq p l e R s m args below meth c D G A H0 true n0 M_X12_isIn x 0 0 0 [(0, (0, a0)), (1, (0, a1)), (2, (0, a2))] [] h := by
  unfold fX12_isIn at hr
  refine r_iload_n dX12_isIn_0 rfl 0 rfl (Or.inl rfl) ?_
  refine r_iload_n dX12_isIn_1 rfl 1 rfl (Or.inl rfl) ?_
  refine r_icmp_lt dX12_isIn_2 (tgt := 14) (by decide) (fun hc => ?_) (fun hc => ?_)
  · have hr := ifp hr hc
    refine r_iconst dX12_isIn_14 (by decide) ?_
    refine r_scast 0 (v := (0, 0)) (w := (2, 0)) rfl cz (fun _ => Or.inl rfl) (st' := [(2, 0)]) rfl ?_
    obtain rfl := Option.some.inj hr
    exact r_ret dX12_isIn_15 rfl (Or.inr ⟨rfl, rfl⟩) (k0 _ hk) ⟨rfl, rfl⟩
  · have hr := ifn hr hc
    refine r_iload_n dX12_isIn_5 rfl 0 rfl (Or.inl rfl) ?_
    refine r_iload_n dX12_isIn_6 rfl 2 rfl (Or.inl rfl) ?_
    refine r_icmp_gt dX12_isIn_7 (tgt := 14) (by decide) (fun hc => ?_) (fun hc => ?_)
    · have hr := ifp hr hc
      refine r_iconst dX12_isIn_14 (by decide) ?_
      refine r_scast 0 (v := (0, 0)) (w := (2, 0)) rfl cz (fun _ => Or.inl rfl) (st' := [(2, 0)]) rfl ?_
      obtain rfl := Option.some.inj hr
      exact r_ret dX12_isIn_15 rfl (Or.inr ⟨rfl, rfl⟩) (k0 _ hk) ⟨rfl, rfl⟩
    · have hr := ifn hr hc
      refine r_iconst dX12_isIn_10 (by decide) ?_
      refine r_goto dX12_isIn_11 (tgt := 15) (by decide) ?_
      refine r_scast 0 (v := (0, 1)) (w := (2, 1)) rfl cz (fun _ => Or.inr rfl) (st' := [(2, 1)]) rfl ?_
      obtain rfl := Option.some.inj hr
      exact r_ret dX12_isIn_15 rfl (Or.inr ⟨rfl, rfl⟩) (k0 _ hk) ⟨rfl, rfl⟩
end M_X12_isIn
theorem oX12_isIn {l : Launch} {D : va_G} {G : gG} {h : hH} {a0 a1 a2 : Int} {r : Int} (hr : fX12_isIn h a0 a1 a2 = some r) : Ctr l D G true yX12_isIn M_X12_isIn [(0, a0), (0, a1), (0, a2)] h (some (2, r), h) :=
  Ctr_of (by decide) rfl (fun z => by cases z) (nl rfl) (fun {p e R s m args below meth c A H0} => by
    exact oX12_isIn_b0 (K := fun z9 => z9 = r) (fun r9 z => by rw [z]) hr rfl)
/-! X12_bitOf -/
theorem dX12_bitOf_0 : decode cX12_bitOf 0 = .ok (.iload_n 0, 1) := by decide +kernel
theorem dX12_bitOf_1 : decode cX12_bitOf 1 = .ok (.iload_n 1, 1) := by decide +kernel
theorem dX12_bitOf_2 : decode cX12_bitOf 2 = .ok (.ishr, 1) := by decide +kernel
theorem dX12_bitOf_3 : decode cX12_bitOf 3 = .ok (.iconst 1, 1) := by decide +kernel
theorem dX12_bitOf_4 : decode cX12_bitOf 4 = .ok (.iand, 1) := by decide +kernel
theorem dX12_bitOf_5 : decode cX12_bitOf 5 = .ok (.iconst 1, 1) := by decide +kernel
theorem dX12_bitOf_6 : decode cX12_bitOf 6 = .ok (.if_icmp .ne 7, 3) := by decide +kernel
theorem dX12_bitOf_9 : decode cX12_bitOf 9 = .ok (.iconst 1, 1) := by decide +kernel
theorem dX12_bitOf_10 : decode cX12_bitOf 10 = .ok (.goto 4, 3) := by decide +kernel
theorem dX12_bitOf_13 : decode cX12_bitOf 13 = .ok (.iconst 0, 1) := by decide +kernel
theorem dX12_bitOf_14 : decode cX12_bitOf 14 = .ok (.ireturn, 1) := by decide +kernel
abbrev M_X12_bitOf : mM := (cX12_bitOf, 2, RX12, some .boolean, false, 0, 0, 0, 0)
theorem gX12_bitOf : cS yX12_bitOf M_X12_bitOf 2 := ⟨(wsl_58 _ (List.mem_of_getElem? (i := 4) rfl)), (wsl_1 _ (List.mem_of_getElem? (i := 5) rfl)), (wsl_58 _ (List.mem_of_getElem? (i := 5) rfl)), by decide +kernel⟩
noncomputable def fX12_bitOf (h : hH) (a0 a1 : Int) : Option (Int) :=
  if iadD (isrD a0 a1) 1 = 1 then
    some 1
  else
    some 0
section M_X12_bitOf
variable {p : Program} {l : Launch} {e : Env} {R : Room} {s : State} {m : MethodId} {args : Array Value} {below : List Frame} {meth : Method} {c : Code} {D : va_G} {G : gG} {A : Nat → Prop} {H0 : Heap} {n0 : Int} {x : Option vV × hH} {h : hH}
set_option maxRecDepth 100000 in
set_option maxHeartbeats 4000000 in
theorem oX12_bitOf_b0 {a0 a1 : Int} {K : Int → Prop} (k0 : ∀ r, K (r) → x = (some (2, r), h)) {r : Int} (hr : fX12_bitOf h a0 a1 = some r) (hk : K r) : Wq p l e R s m args below meth c D G A H0 true n0 M_X12_bitOf x 0 0 0 [(0, (0, a0)), (1, (0, a1))] [] h := by
  unfold fX12_bitOf at hr
  refine r_iload_n dX12_bitOf_0 rfl 0 rfl (Or.inl rfl) ?_
  refine r_iload_n dX12_bitOf_1 rfl 1 rfl (Or.inl rfl) ?_
  refine r_ishr dX12_bitOf_2 ?_
  refine r_iconst dX12_bitOf_3 (by decide) ?_
  refine r_iand dX12_bitOf_4 ?_
  refine r_iconst dX12_bitOf_5 (by decide) ?_
  refine r_icmp_ne dX12_bitOf_6 (tgt := 13) (by decide) (fun hc => ?_) (fun hc => ?_)
  · have hr := ifn hr hc
    refine r_iconst dX12_bitOf_13 (by decide) ?_
    refine r_scast 0 (v := (0, 0)) (w := (2, 0)) rfl cz (fun _ => Or.inl rfl) (st' := [(2, 0)]) rfl ?_
    obtain rfl := Option.some.inj hr
    exact r_ret dX12_bitOf_14 rfl (Or.inr ⟨rfl, rfl⟩) (k0 _ hk) ⟨rfl, rfl⟩
  · have hr := ifp hr hc
    refine r_iconst dX12_bitOf_9 (by decide) ?_
    refine r_goto dX12_bitOf_10 (tgt := 14) (by decide) ?_
    refine r_scast 0 (v := (0, 1)) (w := (2, 1)) rfl cz (fun _ => Or.inr rfl) (st' := [(2, 1)]) rfl ?_
    obtain rfl := Option.some.inj hr
    exact r_ret dX12_bitOf_14 rfl (Or.inr ⟨rfl, rfl⟩) (k0 _ hk) ⟨rfl, rfl⟩
end M_X12_bitOf
theorem oX12_bitOf {l : Launch} {D : va_G} {G : gG} {h : hH} {a0 a1 : Int} {r : Int} (hr : fX12_bitOf h a0 a1 = some r) : Ctr l D G true yX12_bitOf M_X12_bitOf [(0, a0), (0, a1)] h (some (2, r), h) :=
  Ctr_of (by decide) rfl (fun z => by cases z) (nl rfl) (fun {p e R s m args below meth c A H0} => by
    exact oX12_bitOf_b0 (K := fun z9 => z9 = r) (fun r9 z => by rw [z]) hr rfl)
/-! X12_peek -/
theorem dX12_peek_0 : decode cX12_peek 0 = .ok (.aload_n 0, 1) := by decide +kernel
theorem dX12_peek_1 : decode cX12_peek 1 = .ok (.getfield 21, 3) := by decide +kernel
theorem dX12_peek_4 : decode cX12_peek 4 = .ok (.aload_n 0, 1) := by decide +kernel
theorem dX12_peek_5 : decode cX12_peek 5 = .ok (.getfield 18, 3) := by decide +kernel
theorem dX12_peek_8 : decode cX12_peek 8 = .ok (.if_icmp .ge 19, 3) := by decide +kernel
theorem dX12_peek_11 : decode cX12_peek 11 = .ok (.aload_n 0, 1) := by decide +kernel
theorem dX12_peek_12 : decode cX12_peek 12 = .ok (.getfield 14, 3) := by decide +kernel
theorem dX12_peek_15 : decode cX12_peek 15 = .ok (.aload_n 0, 1) := by decide +kernel
theorem dX12_peek_16 : decode cX12_peek 16 = .ok (.getfield 21, 3) := by decide +kernel
theorem dX12_peek_19 : decode cX12_peek 19 = .ok (.baload, 1) := by decide +kernel
theorem dX12_peek_20 : decode cX12_peek 20 = .ok (.sipush 255, 3) := by decide +kernel
theorem dX12_peek_23 : decode cX12_peek 23 = .ok (.iand, 1) := by decide +kernel
theorem dX12_peek_24 : decode cX12_peek 24 = .ok (.goto 4, 3) := by decide +kernel
theorem dX12_peek_27 : decode cX12_peek 27 = .ok (.iconst (-1), 1) := by decide +kernel
theorem dX12_peek_28 : decode cX12_peek 28 = .ok (.ireturn, 1) := by decide +kernel
abbrev M_X12_peek : mM := (cX12_peek, 1, RX12, some .int, false, 0, 0, 0, 0)
theorem gX12_peek : cI yX12_peek M_X12_peek 0 := ⟨(wsl_24 _ (List.mem_of_getElem? (i := 9) rfl)), (wsl_24 _ (List.mem_of_getElem? (i := 10) rfl)), (wsl_1 _ (List.mem_of_getElem? (i := 5) rfl)), (wsl_24 _ (List.mem_of_getElem? (i := 11) rfl)), by decide +kernel⟩
noncomputable def fX12_peek (h : hH) (a0 : Int) : Option (Int) :=
  if h a0 4 < h a0 3 then
    (aget h (h a0 1) (h a0 4)).bind fun v19 =>
    some (iadD v19 255)
  else
    some (-1)
section M_X12_peek
variable {p : Program} {l : Launch} {e : Env} {R : Room} {s : State} {m : MethodId} {args : Array Value} {below : List Frame} {meth : Method} {c : Code} {D : va_G} {G : gG} {A : Nat → Prop} {H0 : Heap} {n0 : Int} {x : Option vV × hH} {h : hH}
set_option maxRecDepth 100000 in
set_option maxHeartbeats 4000000 in
theorem oX12_peek_b0 {a0 : Int} {K : Int → Prop} (k0 : ∀ r, K (r) → x = (some (0, r), h)) {r : Int} (hr : fX12_peek h a0 = some r) (hk : K r) : Wq p l e R s m args below meth c D G A H0 true n0 M_X12_peek x 0 0 0 [(0, (22, a0))] [] h := by
  unfold fX12_peek at hr
  refine r_aload_n dX12_peek_0 rfl 0 rfl (nl rfl) ?_
  refine r_get 12 4 (o := a0) (w := (0, h a0 4)) (T := TX12) (ref := "FollowingRefsModel") rfl (by decide) rfl (by decide) inlX12 (wsl_23 _ (List.mem_of_getElem? (i := 22) rfl)) rfl dX12_peek_1 rfl ?_
  refine r_aload_n dX12_peek_4 rfl 0 rfl (nl rfl) ?_
  refine r_get 12 3 (o := a0) (w := (0, h a0 3)) (T := TX12) (ref := "FollowingRefsModel") rfl (by decide) rfl (by decide) inlX12 (wsl_23 _ (List.mem_of_getElem? (i := 21) rfl)) rfl dX12_peek_5 rfl ?_
  refine r_icmp_ge dX12_peek_8 (tgt := 27) (by decide) (fun hc => ?_) (fun hc => ?_)
  · have hr := ifn hr hc
    refine r_iconst dX12_peek_27 (by decide) ?_
    obtain rfl := Option.some.inj hr
    exact r_ret dX12_peek_28 rfl (Or.inl ⟨rfl, rfl⟩) (k0 _ hk) ⟨rfl, rfl⟩
  · have hr := ifp hr hc
    refine r_aload_n dX12_peek_11 rfl 0 rfl (nl rfl) ?_
    refine r_get 12 1 (o := a0) (w := (52, h a0 1)) (T := TX12) (ref := "FollowingRefsModel") rfl (by decide) rfl (by decide) inlX12 (wsl_7 _ (List.mem_of_getElem? (i := 7) rfl)) rfl dX12_peek_12 rfl ?_
    refine r_aload_n dX12_peek_15 rfl 0 rfl (nl rfl) ?_
    refine r_get 12 4 (o := a0) (w := (0, h a0 4)) (T := TX12) (ref := "FollowingRefsModel") rfl (by decide) rfl (by decide) inlX12 (wsl_23 _ (List.mem_of_getElem? (i := 22) rfl)) rfl dX12_peek_16 rfl ?_
    obtain ⟨v19, hg19, hr⟩ := bnd hr
    refine r_bald dX12_peek_19 hg19 ?_
    refine r_sipush dX12_peek_20 (by decide) (by decide) ?_
    refine r_iand dX12_peek_23 ?_
    refine r_goto dX12_peek_24 (tgt := 28) (by decide) ?_
    obtain rfl := Option.some.inj hr
    exact r_ret dX12_peek_28 rfl (Or.inl ⟨rfl, rfl⟩) (k0 _ hk) ⟨rfl, rfl⟩
end M_X12_peek
theorem oX12_peek {l : Launch} {D : va_G} {G : gG} {h : hH} {a0 : Int} {r : Int} (hr : fX12_peek h a0 = some r) : Ctr l D G true yX12_peek M_X12_peek [(22, a0)] h (some (0, r), h) :=
  Ctr_of (by decide) rfl (fun z => by cases z) (nl rfl) (fun {p e R s m args below meth c A H0} => by
    exact oX12_peek_b0 (K := fun z9 => z9 = r) (fun r9 z => by rw [z]) hr rfl)
/-! X12_isSmall -/
theorem dX12_isSmall_0 : decode cX12_isSmall 0 = .ok (.iload_n 0, 1) := by decide +kernel
theorem dX12_isSmall_1 : decode cX12_isSmall 1 = .ok (.bipush 97, 2) := by decide +kernel
theorem dX12_isSmall_3 : decode cX12_isSmall 3 = .ok (.if_icmp .lt 13, 3) := by decide +kernel
theorem dX12_isSmall_6 : decode cX12_isSmall 6 = .ok (.iload_n 0, 1) := by decide +kernel
theorem dX12_isSmall_7 : decode cX12_isSmall 7 = .ok (.bipush 122, 2) := by decide +kernel
theorem dX12_isSmall_9 : decode cX12_isSmall 9 = .ok (.if_icmp .gt 7, 3) := by decide +kernel
theorem dX12_isSmall_12 : decode cX12_isSmall 12 = .ok (.iconst 1, 1) := by decide +kernel
theorem dX12_isSmall_13 : decode cX12_isSmall 13 = .ok (.goto 4, 3) := by decide +kernel
theorem dX12_isSmall_16 : decode cX12_isSmall 16 = .ok (.iconst 0, 1) := by decide +kernel
theorem dX12_isSmall_17 : decode cX12_isSmall 17 = .ok (.ireturn, 1) := by decide +kernel
abbrev M_X12_isSmall : mM := (cX12_isSmall, 1, RX12, some .boolean, false, 0, 0, 0, 0)
theorem gX12_isSmall : cS yX12_isSmall M_X12_isSmall 1 := ⟨(wsl_24 _ (List.mem_of_getElem? (i := 13) rfl)), (wsl_1 _ (List.mem_of_getElem? (i := 5) rfl)), (wsl_24 _ (List.mem_of_getElem? (i := 14) rfl)), by decide +kernel⟩
noncomputable def fX12_isSmall (h : hH) (a0 : Int) : Option (Int) :=
  if a0 < 97 then
    some 0
  else
    if 122 < a0 then
      some 0
    else
      some 1
section M_X12_isSmall
variable {p : Program} {l : Launch} {e : Env} {R : Room} {s : State} {m : MethodId} {args : Array Value} {below : List Frame} {meth : Method} {c : Code} {D : va_G} {G : gG} {A : Nat → Prop} {H0 : Heap} {n0 : Int} {x : Option vV × hH} {h : hH}
set_option maxRecDepth 100000 in
set_option maxHeartbeats 4000000 in
theorem oX12_isSmall_b0 {a0 : Int} {K : Int → Prop} (k0 : ∀ r, K (r) → x = (some (2, r), h)) {r : Int} (hr : fX12_isSmall h a0 = some r) (hk : K r) : Wq p l e R s m args below meth c D G A H0 true n0 M_X12_isSmall x 0 0 0 [(0, (0, a0))] [] h := by
  unfold fX12_isSmall at hr
  refine r_iload_n dX12_isSmall_0 rfl 0 rfl (Or.inl rfl) ?_
  refine r_bipush dX12_isSmall_1 (by decide) (by decide) ?_
  refine r_icmp_lt dX12_isSmall_3 (tgt := 16) (by decide) (fun hc => ?_) (fun hc => ?_)
  · have hr := ifp hr hc
    refine r_iconst dX12_isSmall_16 (by decide) ?_
    refine r_scast 0 (v := (0, 0)) (w := (2, 0)) rfl cz (fun _ => Or.inl rfl) (st' := [(2, 0)]) rfl ?_
    obtain rfl := Option.some.inj hr
    exact r_ret dX12_isSmall_17 rfl (Or.inr ⟨rfl, rfl⟩) (k0 _ hk) ⟨rfl, rfl⟩
  · have hr := ifn hr hc
    refine r_iload_n dX12_isSmall_6 rfl 0 rfl (Or.inl rfl) ?_
    refine r_bipush dX12_isSmall_7 (by decide) (by decide) ?_
    refine r_icmp_gt dX12_isSmall_9 (tgt := 16) (by decide) (fun hc => ?_) (fun hc => ?_)
    · have hr := ifp hr hc
      refine r_iconst dX12_isSmall_16 (by decide) ?_
      refine r_scast 0 (v := (0, 0)) (w := (2, 0)) rfl cz (fun _ => Or.inl rfl) (st' := [(2, 0)]) rfl ?_
      obtain rfl := Option.some.inj hr
      exact r_ret dX12_isSmall_17 rfl (Or.inr ⟨rfl, rfl⟩) (k0 _ hk) ⟨rfl, rfl⟩
    · have hr := ifn hr hc
      refine r_iconst dX12_isSmall_12 (by decide) ?_
      refine r_goto dX12_isSmall_13 (tgt := 17) (by decide) ?_
      refine r_scast 0 (v := (0, 1)) (w := (2, 1)) rfl cz (fun _ => Or.inr rfl) (st' := [(2, 1)]) rfl ?_
      obtain rfl := Option.some.inj hr
      exact r_ret dX12_isSmall_17 rfl (Or.inr ⟨rfl, rfl⟩) (k0 _ hk) ⟨rfl, rfl⟩
end M_X12_isSmall
theorem oX12_isSmall {l : Launch} {D : va_G} {G : gG} {h : hH} {a0 : Int} {r : Int} (hr : fX12_isSmall h a0 = some r) : Ctr l D G true yX12_isSmall M_X12_isSmall [(0, a0)] h (some (2, r), h) :=
  Ctr_of (by decide) rfl (fun z => by cases z) (nl rfl) (fun {p e R s m args below meth c A H0} => by
    exact oX12_isSmall_b0 (K := fun z9 => z9 = r) (fun r9 z => by rw [z]) hr rfl)
/-! X12_isDigit -/
theorem dX12_isDigit_0 : decode cX12_isDigit 0 = .ok (.iload_n 0, 1) := by decide +kernel
theorem dX12_isDigit_1 : decode cX12_isDigit 1 = .ok (.bipush 48, 2) := by decide +kernel
theorem dX12_isDigit_3 : decode cX12_isDigit 3 = .ok (.if_icmp .lt 13, 3) := by decide +kernel
theorem dX12_isDigit_6 : decode cX12_isDigit 6 = .ok (.iload_n 0, 1) := by decide +kernel
theorem dX12_isDigit_7 : decode cX12_isDigit 7 = .ok (.bipush 57, 2) := by decide +kernel
theorem dX12_isDigit_9 : decode cX12_isDigit 9 = .ok (.if_icmp .gt 7, 3) := by decide +kernel
theorem dX12_isDigit_12 : decode cX12_isDigit 12 = .ok (.iconst 1, 1) := by decide +kernel
theorem dX12_isDigit_13 : decode cX12_isDigit 13 = .ok (.goto 4, 3) := by decide +kernel
theorem dX12_isDigit_16 : decode cX12_isDigit 16 = .ok (.iconst 0, 1) := by decide +kernel
theorem dX12_isDigit_17 : decode cX12_isDigit 17 = .ok (.ireturn, 1) := by decide +kernel
abbrev M_X12_isDigit : mM := (cX12_isDigit, 1, RX12, some .boolean, false, 0, 0, 0, 0)
theorem gX12_isDigit : cS yX12_isDigit M_X12_isDigit 1 := ⟨(wsl_24 _ (List.mem_of_getElem? (i := 16) rfl)), (wsl_1 _ (List.mem_of_getElem? (i := 5) rfl)), (wsl_24 _ (List.mem_of_getElem? (i := 17) rfl)), by decide +kernel⟩
noncomputable def fX12_isDigit (h : hH) (a0 : Int) : Option (Int) :=
  if a0 < 48 then
    some 0
  else
    if 57 < a0 then
      some 0
    else
      some 1
section M_X12_isDigit
variable {p : Program} {l : Launch} {e : Env} {R : Room} {s : State} {m : MethodId} {args : Array Value} {below : List Frame} {meth : Method} {c : Code} {D : va_G} {G : gG} {A : Nat → Prop} {H0 : Heap} {n0 : Int} {x : Option vV × hH} {h : hH}
set_option maxRecDepth 100000 in
set_option maxHeartbeats 4000000 in
theorem oX12_isDigit_b0 {a0 : Int} {K : Int → Prop} (k0 : ∀ r, K (r) → x = (some (2, r), h)) {r : Int} (hr : fX12_isDigit h a0 = some r) (hk : K r) : Wq p l e R s m args below meth c D G A H0 true n0 M_X12_isDigit x 0 0 0 [(0, (0, a0))] [] h := by
  unfold fX12_isDigit at hr
  refine r_iload_n dX12_isDigit_0 rfl 0 rfl (Or.inl rfl) ?_
  refine r_bipush dX12_isDigit_1 (by decide) (by decide) ?_
  refine r_icmp_lt dX12_isDigit_3 (tgt := 16) (by decide) (fun hc => ?_) (fun hc => ?_)
  · have hr := ifp hr hc
    refine r_iconst dX12_isDigit_16 (by decide) ?_
    refine r_scast 0 (v := (0, 0)) (w := (2, 0)) rfl cz (fun _ => Or.inl rfl) (st' := [(2, 0)]) rfl ?_
    obtain rfl := Option.some.inj hr
    exact r_ret dX12_isDigit_17 rfl (Or.inr ⟨rfl, rfl⟩) (k0 _ hk) ⟨rfl, rfl⟩
  · have hr := ifn hr hc
    refine r_iload_n dX12_isDigit_6 rfl 0 rfl (Or.inl rfl) ?_
    refine r_bipush dX12_isDigit_7 (by decide) (by decide) ?_
    refine r_icmp_gt dX12_isDigit_9 (tgt := 16) (by decide) (fun hc => ?_) (fun hc => ?_)
    · have hr := ifp hr hc
      refine r_iconst dX12_isDigit_16 (by decide) ?_
      refine r_scast 0 (v := (0, 0)) (w := (2, 0)) rfl cz (fun _ => Or.inl rfl) (st' := [(2, 0)]) rfl ?_
      obtain rfl := Option.some.inj hr
      exact r_ret dX12_isDigit_17 rfl (Or.inr ⟨rfl, rfl⟩) (k0 _ hk) ⟨rfl, rfl⟩
    · have hr := ifn hr hc
      refine r_iconst dX12_isDigit_12 (by decide) ?_
      refine r_goto dX12_isDigit_13 (tgt := 17) (by decide) ?_
      refine r_scast 0 (v := (0, 1)) (w := (2, 1)) rfl cz (fun _ => Or.inr rfl) (st' := [(2, 1)]) rfl ?_
      obtain rfl := Option.some.inj hr
      exact r_ret dX12_isDigit_17 rfl (Or.inr ⟨rfl, rfl⟩) (k0 _ hk) ⟨rfl, rfl⟩
end M_X12_isDigit
theorem oX12_isDigit {l : Launch} {D : va_G} {G : gG} {h : hH} {a0 : Int} {r : Int} (hr : fX12_isDigit h a0 = some r) : Ctr l D G true yX12_isDigit M_X12_isDigit [(0, a0)] h (some (2, r), h) :=
  Ctr_of (by decide) rfl (fun z => by cases z) (nl rfl) (fun {p e R s m args below meth c A H0} => by
    exact oX12_isDigit_b0 (K := fun z9 => z9 = r) (fun r9 z => by rw [z]) hr rfl)
/-! X12_next -/
theorem dX12_next_0 : decode cX12_next 0 = .ok (.aload_n 0, 1) := by decide +kernel
theorem dX12_next_1 : decode cX12_next 1 = .ok (.invokevirtual 187, 3) := by decide +kernel
theorem dX12_next_4 : decode cX12_next 4 = .ok (.bipush 32, 2) := by decide +kernel
theorem dX12_next_6 : decode cX12_next 6 = .ok (.if_icmp .eq 12, 3) := by decide +kernel
theorem dX12_next_9 : decode cX12_next 9 = .ok (.aload_n 0, 1) := by decide +kernel
theorem dX12_next_10 : decode cX12_next 10 = .ok (.invokevirtual 187, 3) := by decide +kernel
theorem dX12_next_13 : decode cX12_next 13 = .ok (.bipush 10, 2) := by decide +kernel
theorem dX12_next_15 : decode cX12_next 15 = .ok (.if_icmp .ne 16, 3) := by decide +kernel
theorem dX12_next_18 : decode cX12_next 18 = .ok (.aload_n 0, 1) := by decide +kernel
theorem dX12_next_19 : decode cX12_next 19 = .ok (.dup, 1) := by decide +kernel
theorem dX12_next_20 : decode cX12_next 20 = .ok (.getfield 21, 3) := by decide +kernel
theorem dX12_next_23 : decode cX12_next 23 = .ok (.iconst 1, 1) := by decide +kernel
theorem dX12_next_24 : decode cX12_next 24 = .ok (.iadd, 1) := by decide +kernel
theorem dX12_next_25 : decode cX12_next 25 = .ok (.putfield 21, 3) := by decide +kernel
theorem dX12_next_28 : decode cX12_next 28 = .ok (.goto (-28), 3) := by decide +kernel
theorem dX12_next_31 : decode cX12_next 31 = .ok (.aload_n 0, 1) := by decide +kernel
theorem dX12_next_32 : decode cX12_next 32 = .ok (.aload_n 0, 1) := by decide +kernel
theorem dX12_next_33 : decode cX12_next 33 = .ok (.getfield 21, 3) := by decide +kernel
theorem dX12_next_36 : decode cX12_next 36 = .ok (.putfield 191, 3) := by decide +kernel
theorem dX12_next_39 : decode cX12_next 39 = .ok (.aload_n 0, 1) := by decide +kernel
theorem dX12_next_40 : decode cX12_next 40 = .ok (.iconst 0, 1) := by decide +kernel
theorem dX12_next_41 : decode cX12_next 41 = .ok (.putfield 194, 3) := by decide +kernel
theorem dX12_next_44 : decode cX12_next 44 = .ok (.aload_n 0, 1) := by decide +kernel
theorem dX12_next_45 : decode cX12_next 45 = .ok (.getfield 18, 3) := by decide +kernel
theorem dX12_next_48 : decode cX12_next 48 = .ok (.aload_n 0, 1) := by decide +kernel
theorem dX12_next_49 : decode cX12_next 49 = .ok (.getfield 24, 3) := by decide +kernel
theorem dX12_next_52 : decode cX12_next 52 = .ok (.if_icmp .le 28, 3) := by decide +kernel
theorem dX12_next_55 : decode cX12_next 55 = .ok (.aload_n 0, 1) := by decide +kernel
theorem dX12_next_56 : decode cX12_next 56 = .ok (.getfield 21, 3) := by decide +kernel
theorem dX12_next_59 : decode cX12_next 59 = .ok (.aload_n 0, 1) := by decide +kernel
theorem dX12_next_60 : decode cX12_next 60 = .ok (.getfield 24, 3) := by decide +kernel
theorem dX12_next_63 : decode cX12_next 63 = .ok (.if_icmp .lt 17, 3) := by decide +kernel
theorem dX12_next_66 : decode cX12_next 66 = .ok (.aload_n 0, 1) := by decide +kernel
theorem dX12_next_67 : decode cX12_next 67 = .ok (.aload_n 0, 1) := by decide +kernel
theorem dX12_next_68 : decode cX12_next 68 = .ok (.getfield 24, 3) := by decide +kernel
theorem dX12_next_71 : decode cX12_next 71 = .ok (.putfield 191, 3) := by decide +kernel
theorem dX12_next_74 : decode cX12_next 74 = .ok (.aload_n 0, 1) := by decide +kernel
theorem dX12_next_75 : decode cX12_next 75 = .ok (.iconst 4, 1) := by decide +kernel
theorem dX12_next_76 : decode cX12_next 76 = .ok (.putfield 197, 3) := by decide +kernel
theorem dX12_next_79 : decode cX12_next 79 = .ok (.return_, 1) := by decide +kernel
theorem dX12_next_80 : decode cX12_next 80 = .ok (.aload_n 0, 1) := by decide +kernel
theorem dX12_next_81 : decode cX12_next 81 = .ok (.invokevirtual 187, 3) := by decide +kernel
theorem dX12_next_84 : decode cX12_next 84 = .ok (.istore_n 1, 1) := by decide +kernel
theorem dX12_next_85 : decode cX12_next 85 = .ok (.iload_n 1, 1) := by decide +kernel
theorem dX12_next_86 : decode cX12_next 86 = .ok (.ifCond .ge 9, 3) := by decide +kernel
theorem dX12_next_89 : decode cX12_next 89 = .ok (.aload_n 0, 1) := by decide +kernel
theorem dX12_next_90 : decode cX12_next 90 = .ok (.iconst 0, 1) := by decide +kernel
theorem dX12_next_91 : decode cX12_next 91 = .ok (.putfield 197, 3) := by decide +kernel
theorem dX12_next_94 : decode cX12_next 94 = .ok (.return_, 1) := by decide +kernel
theorem dX12_next_95 : decode cX12_next 95 = .ok (.iload_n 1, 1) := by decide +kernel
theorem dX12_next_96 : decode cX12_next 96 = .ok (.invokestatic 200, 3) := by decide +kernel
theorem dX12_next_99 : decode cX12_next 99 = .ok (.ifCond .ne 65, 3) := by decide +kernel
theorem dX12_next_102 : decode cX12_next 102 = .ok (.iload_n 1, 1) := by decide +kernel
theorem dX12_next_103 : decode cX12_next 103 = .ok (.invokestatic 204, 3) := by decide +kernel
theorem dX12_next_106 : decode cX12_next 106 = .ok (.ifCond .ne 58, 3) := by decide +kernel
theorem dX12_next_109 : decode cX12_next 109 = .ok (.aload_n 0, 1) := by decide +kernel
theorem dX12_next_110 : decode cX12_next 110 = .ok (.iload_n 1, 1) := by decide +kernel
theorem dX12_next_111 : decode cX12_next 111 = .ok (.bipush 59, 2) := by decide +kernel
theorem dX12_next_113 : decode cX12_next 113 = .ok (.if_icmp .eq 27, 3) := by decide +kernel
theorem dX12_next_116 : decode cX12_next 116 = .ok (.iload_n 1, 1) := by decide +kernel
theorem dX12_next_117 : decode cX12_next 117 = .ok (.bipush 40, 2) := by decide +kernel
theorem dX12_next_119 : decode cX12_next 119 = .ok (.if_icmp .eq 21, 3) := by decide +kernel
theorem dX12_next_122 : decode cX12_next 122 = .ok (.iload_n 1, 1) := by decide +kernel
theorem dX12_next_123 : decode cX12_next 123 = .ok (.bipush 41, 2) := by decide +kernel
theorem dX12_next_125 : decode cX12_next 125 = .ok (.if_icmp .eq 15, 3) := by decide +kernel
theorem dX12_next_128 : decode cX12_next 128 = .ok (.iload_n 1, 1) := by decide +kernel
theorem dX12_next_129 : decode cX12_next 129 = .ok (.bipush 60, 2) := by decide +kernel
theorem dX12_next_131 : decode cX12_next 131 = .ok (.if_icmp .lt 13, 3) := by decide +kernel
theorem dX12_next_134 : decode cX12_next 134 = .ok (.iload_n 1, 1) := by decide +kernel
theorem dX12_next_135 : decode cX12_next 135 = .ok (.bipush 62, 2) := by decide +kernel
theorem dX12_next_137 : decode cX12_next 137 = .ok (.if_icmp .gt 7, 3) := by decide +kernel
theorem dX12_next_140 : decode cX12_next 140 = .ok (.iconst 3, 1) := by decide +kernel
theorem dX12_next_141 : decode cX12_next 141 = .ok (.goto 4, 3) := by decide +kernel
theorem dX12_next_144 : decode cX12_next 144 = .ok (.iconst 4, 1) := by decide +kernel
theorem dX12_next_145 : decode cX12_next 145 = .ok (.putfield 197, 3) := by decide +kernel
theorem dX12_next_148 : decode cX12_next 148 = .ok (.aload_n 0, 1) := by decide +kernel
theorem dX12_next_149 : decode cX12_next 149 = .ok (.iload_n 1, 1) := by decide +kernel
theorem dX12_next_150 : decode cX12_next 150 = .ok (.putfield 207, 3) := by decide +kernel
theorem dX12_next_153 : decode cX12_next 153 = .ok (.aload_n 0, 1) := by decide +kernel
theorem dX12_next_154 : decode cX12_next 154 = .ok (.dup, 1) := by decide +kernel
theorem dX12_next_155 : decode cX12_next 155 = .ok (.getfield 21, 3) := by decide +kernel
theorem dX12_next_158 : decode cX12_next 158 = .ok (.iconst 1, 1) := by decide +kernel
theorem dX12_next_159 : decode cX12_next 159 = .ok (.iadd, 1) := by decide +kernel
theorem dX12_next_160 : decode cX12_next 160 = .ok (.putfield 21, 3) := by decide +kernel
theorem dX12_next_163 : decode cX12_next 163 = .ok (.return_, 1) := by decide +kernel
theorem dX12_next_164 : decode cX12_next 164 = .ok (.iload_n 1, 1) := by decide +kernel
theorem dX12_next_165 : decode cX12_next 165 = .ok (.invokestatic 200, 3) := by decide +kernel
theorem dX12_next_168 : decode cX12_next 168 = .ok (.istore_n 2, 1) := by decide +kernel
theorem dX12_next_169 : decode cX12_next 169 = .ok (.iconst 1, 1) := by decide +kernel
theorem dX12_next_170 : decode cX12_next 170 = .ok (.istore_n 3, 1) := by decide +kernel
theorem dX12_next_171 : decode cX12_next 171 = .ok (.aload_n 0, 1) := by decide +kernel
theorem dX12_next_172 : decode cX12_next 172 = .ok (.lconst 0, 1) := by decide +kernel
theorem dX12_next_173 : decode cX12_next 173 = .ok (.putfield 210, 3) := by decide +kernel
theorem dX12_next_176 : decode cX12_next 176 = .ok (.aload_n 0, 1) := by decide +kernel
theorem dX12_next_177 : decode cX12_next 177 = .ok (.iconst 0, 1) := by decide +kernel
theorem dX12_next_178 : decode cX12_next 178 = .ok (.putfield 207, 3) := by decide +kernel
theorem dX12_next_181 : decode cX12_next 181 = .ok (.aload_n 0, 1) := by decide +kernel
theorem dX12_next_182 : decode cX12_next 182 = .ok (.invokevirtual 187, 3) := by decide +kernel
theorem dX12_next_185 : decode cX12_next 185 = .ok (.invokestatic 200, 3) := by decide +kernel
theorem dX12_next_188 : decode cX12_next 188 = .ok (.ifCond .ne 13, 3) := by decide +kernel
theorem dX12_next_191 : decode cX12_next 191 = .ok (.aload_n 0, 1) := by decide +kernel
theorem dX12_next_192 : decode cX12_next 192 = .ok (.invokevirtual 187, 3) := by decide +kernel
theorem dX12_next_195 : decode cX12_next 195 = .ok (.invokestatic 204, 3) := by decide +kernel
theorem dX12_next_198 : decode cX12_next 198 = .ok (.ifCond .eq 100, 3) := by decide +kernel
theorem dX12_next_201 : decode cX12_next 201 = .ok (.iload_n 3, 1) := by decide +kernel
theorem dX12_next_202 : decode cX12_next 202 = .ok (.ifCond .eq 18, 3) := by decide +kernel
theorem dX12_next_205 : decode cX12_next 205 = .ok (.aload_n 0, 1) := by decide +kernel
theorem dX12_next_206 : decode cX12_next 206 = .ok (.invokevirtual 187, 3) := by decide +kernel
theorem dX12_next_209 : decode cX12_next 209 = .ok (.invokestatic 200, 3) := by decide +kernel
theorem dX12_next_212 : decode cX12_next 212 = .ok (.iload_n 2, 1) := by decide +kernel
theorem dX12_next_213 : decode cX12_next 213 = .ok (.if_icmp .ne 7, 3) := by decide +kernel
theorem dX12_next_216 : decode cX12_next 216 = .ok (.iconst 1, 1) := by decide +kernel
theorem dX12_next_217 : decode cX12_next 217 = .ok (.goto 4, 3) := by decide +kernel
theorem dX12_next_220 : decode cX12_next 220 = .ok (.iconst 0, 1) := by decide +kernel
theorem dX12_next_221 : decode cX12_next 221 = .ok (.istore_n 3, 1) := by decide +kernel
theorem dX12_next_222 : decode cX12_next 222 = .ok (.aload_n 0, 1) := by decide +kernel
theorem dX12_next_223 : decode cX12_next 223 = .ok (.getfield 194, 3) := by decide +kernel
theorem dX12_next_226 : decode cX12_next 226 = .ok (.bipush 7, 2) := by decide +kernel
theorem dX12_next_228 : decode cX12_next 228 = .ok (.if_icmp .ge 20, 3) := by decide +kernel
theorem dX12_next_231 : decode cX12_next 231 = .ok (.aload_n 0, 1) := by decide +kernel
theorem dX12_next_232 : decode cX12_next 232 = .ok (.aload_n 0, 1) := by decide +kernel
theorem dX12_next_233 : decode cX12_next 233 = .ok (.getfield 210, 3) := by decide +kernel
theorem dX12_next_236 : decode cX12_next 236 = .ok (.bipush 8, 2) := by decide +kernel
theorem dX12_next_238 : decode cX12_next 238 = .ok (.lshl, 1) := by decide +kernel
theorem dX12_next_239 : decode cX12_next 239 = .ok (.aload_n 0, 1) := by decide +kernel
theorem dX12_next_240 : decode cX12_next 240 = .ok (.invokevirtual 187, 3) := by decide +kernel
theorem dX12_next_243 : decode cX12_next 243 = .ok (.i2l, 1) := by decide +kernel
theorem dX12_next_244 : decode cX12_next 244 = .ok (.lor, 1) := by decide +kernel
theorem dX12_next_245 : decode cX12_next 245 = .ok (.putfield 210, 3) := by decide +kernel
theorem dX12_next_248 : decode cX12_next 248 = .ok (.aload_n 0, 1) := by decide +kernel
theorem dX12_next_249 : decode cX12_next 249 = .ok (.getfield 194, 3) := by decide +kernel
theorem dX12_next_252 : decode cX12_next 252 = .ok (.iconst 3, 1) := by decide +kernel
theorem dX12_next_253 : decode cX12_next 253 = .ok (.if_icmp .ge 22, 3) := by decide +kernel
theorem dX12_next_256 : decode cX12_next 256 = .ok (.aload_n 0, 1) := by decide +kernel
theorem dX12_next_257 : decode cX12_next 257 = .ok (.bipush 10, 2) := by decide +kernel
theorem dX12_next_259 : decode cX12_next 259 = .ok (.aload_n 0, 1) := by decide +kernel
theorem dX12_next_260 : decode cX12_next 260 = .ok (.getfield 207, 3) := by decide +kernel
theorem dX12_next_263 : decode cX12_next 263 = .ok (.imul, 1) := by decide +kernel
theorem dX12_next_264 : decode cX12_next 264 = .ok (.aload_n 0, 1) := by decide +kernel
theorem dX12_next_265 : decode cX12_next 265 = .ok (.invokevirtual 187, 3) := by decide +kernel
theorem dX12_next_268 : decode cX12_next 268 = .ok (.iadd, 1) := by decide +kernel
theorem dX12_next_269 : decode cX12_next 269 = .ok (.bipush 48, 2) := by decide +kernel
theorem dX12_next_271 : decode cX12_next 271 = .ok (.isub, 1) := by decide +kernel
theorem dX12_next_272 : decode cX12_next 272 = .ok (.putfield 207, 3) := by decide +kernel
theorem dX12_next_275 : decode cX12_next 275 = .ok (.aload_n 0, 1) := by decide +kernel
theorem dX12_next_276 : decode cX12_next 276 = .ok (.dup, 1) := by decide +kernel
theorem dX12_next_277 : decode cX12_next 277 = .ok (.getfield 194, 3) := by decide +kernel
theorem dX12_next_280 : decode cX12_next 280 = .ok (.iconst 1, 1) := by decide +kernel
theorem dX12_next_281 : decode cX12_next 281 = .ok (.iadd, 1) := by decide +kernel
theorem dX12_next_282 : decode cX12_next 282 = .ok (.putfield 194, 3) := by decide +kernel
theorem dX12_next_285 : decode cX12_next 285 = .ok (.aload_n 0, 1) := by decide +kernel
theorem dX12_next_286 : decode cX12_next 286 = .ok (.dup, 1) := by decide +kernel
theorem dX12_next_287 : decode cX12_next 287 = .ok (.getfield 21, 3) := by decide +kernel
theorem dX12_next_290 : decode cX12_next 290 = .ok (.iconst 1, 1) := by decide +kernel
theorem dX12_next_291 : decode cX12_next 291 = .ok (.iadd, 1) := by decide +kernel
theorem dX12_next_292 : decode cX12_next 292 = .ok (.putfield 21, 3) := by decide +kernel
theorem dX12_next_295 : decode cX12_next 295 = .ok (.goto (-114), 3) := by decide +kernel
theorem dX12_next_298 : decode cX12_next 298 = .ok (.aload_n 0, 1) := by decide +kernel
theorem dX12_next_299 : decode cX12_next 299 = .ok (.iload_n 3, 1) := by decide +kernel
theorem dX12_next_300 : decode cX12_next 300 = .ok (.ifCond .eq 20, 3) := by decide +kernel
theorem dX12_next_303 : decode cX12_next 303 = .ok (.aload_n 0, 1) := by decide +kernel
theorem dX12_next_304 : decode cX12_next 304 = .ok (.getfield 194, 3) := by decide +kernel
theorem dX12_next_307 : decode cX12_next 307 = .ok (.iload_n 2, 1) := by decide +kernel
theorem dX12_next_308 : decode cX12_next 308 = .ok (.ifCond .eq 8, 3) := by decide +kernel
theorem dX12_next_311 : decode cX12_next 311 = .ok (.bipush 7, 2) := by decide +kernel
theorem dX12_next_313 : decode cX12_next 313 = .ok (.goto 4, 3) := by decide +kernel
theorem dX12_next_316 : decode cX12_next 316 = .ok (.iconst 3, 1) := by decide +kernel
theorem dX12_next_317 : decode cX12_next 317 = .ok (.if_icmp .le 7, 3) := by decide +kernel
theorem dX12_next_320 : decode cX12_next 320 = .ok (.iconst 4, 1) := by decide +kernel
theorem dX12_next_321 : decode cX12_next 321 = .ok (.goto 12, 3) := by decide +kernel
theorem dX12_next_324 : decode cX12_next 324 = .ok (.iload_n 2, 1) := by decide +kernel
theorem dX12_next_325 : decode cX12_next 325 = .ok (.ifCond .eq 7, 3) := by decide +kernel
theorem dX12_next_328 : decode cX12_next 328 = .ok (.iconst 1, 1) := by decide +kernel
theorem dX12_next_329 : decode cX12_next 329 = .ok (.goto 4, 3) := by decide +kernel
theorem dX12_next_332 : decode cX12_next 332 = .ok (.iconst 2, 1) := by decide +kernel
theorem dX12_next_333 : decode cX12_next 333 = .ok (.putfield 197, 3) := by decide +kernel
theorem dX12_next_336 : decode cX12_next 336 = .ok (.return_, 1) := by decide +kernel
abbrev M_X12_next : mM := (cX12_next, 4, RX12, none, false, 1, 20, 0, 0)
theorem gX12_next : cI yX12_next M_X12_next 0 := ⟨(wsl_24 _ (List.mem_of_getElem? (i := 1) rfl)), (wsl_24 _ (List.mem_of_getElem? (i := 2) rfl)), (wsl_1 _ (List.mem_of_getElem? (i := 5) rfl)), (wsl_24 _ (List.mem_of_getElem? (i := 3) rfl)), by decide +kernel⟩
noncomputable def fX12_next_b145 (h : hH) (a0 l1 s0 s1 : Int) : Option (hH) :=
  (pput h s1 12 s0).bind fun h145 =>
  (pput h145 a0 15 l1).bind fun h150 =>
  (pput h150 a0 4 (w32 ((h150 a0 4) + 1))).bind fun h160 =>
  some h160
noncomputable def fX12_next_b144 (h : hH) (a0 l1 s0 : Int) : Option (hH) :=
  fX12_next_b145 h a0 l1 4 s0
noncomputable def fX12_next_b140 (h : hH) (a0 l1 s0 : Int) : Option (hH) :=
  fX12_next_b145 h a0 l1 3 s0
noncomputable def fX12_next_b333 (h : hH) (s0 s1 : Int) : Option (hH) :=
  (pput h s1 12 s0).bind fun h333 =>
  some h333
noncomputable def fX12_next_b320 (h : hH) (s0 : Int) : Option (hH) :=
  fX12_next_b333 h 4 s0
noncomputable def fX12_next_b317 (h : hH) (l2 s0 s1 s2 : Int) : Option (hH) :=
  if s0 < s1 then
    fX12_next_b320 h s2
  else
    if l2 = 0 then
      fX12_next_b333 h 2 s2
    else
      fX12_next_b333 h 1 s2
noncomputable def fX12_next_b275 (h : hH) (a0 l2 l3 : Int) : Option ((hH × Int) ⊕ (hH)) :=
  (pput h a0 14 (w32 ((h a0 14) + 1))).bind fun h282 =>
  (pput h282 a0 4 (w32 ((h282 a0 4) + 1))).bind fun h292 =>
  some (.inl (h292, l3))
noncomputable def fX12_next_b248 (h : hH) (a0 l2 l3 : Int) : Option ((hH × Int) ⊕ (hH)) :=
  if h a0 14 < 3 then
    (fX12_peek h a0).bind fun r265 =>
    (pput h a0 15 (w32 ((w32 ((w32 (10 * (h a0 15))) + r265)) - 48))).bind fun h272 =>
    fX12_next_b275 h272 a0 l2 l3
  else
    fX12_next_b275 h a0 l2 l3
noncomputable def fX12_next_b221 (h : hH) (a0 l2 s0 : Int) : Option ((hH × Int) ⊕ (hH)) :=
  if h a0 14 < 7 then
    (fX12_peek h a0).bind fun r240 =>
    (pput h a0 18 (lorD (lshD (h a0 18) 8) r240)).bind fun h245 =>
    fX12_next_b248 h245 a0 l2 s0
  else
    fX12_next_b248 h a0 l2 s0
noncomputable def fX12_next_b220 (h : hH) (a0 l2 : Int) : Option ((hH × Int) ⊕ (hH)) :=
  fX12_next_b221 h a0 l2 0
noncomputable def fX12_next_b201 (h : hH) (a0 l2 l3 : Int) : Option ((hH × Int) ⊕ (hH)) :=
  if l3 = 0 then
    fX12_next_b220 h a0 l2
  else
    (fX12_peek h a0).bind fun r206 =>
    (fX12_isSmall h r206).bind fun r209 =>
    if r209 = l2 then
      fX12_next_b221 h a0 l2 1
    else
      fX12_next_b220 h a0 l2
noncomputable def fX12_next_s181 (h0 : hH) (a0 l2 : Int) : hH × Int → Option ((hH × Int) ⊕ (hH)) := fun (h, l3) =>
  (fX12_peek h a0).bind fun r182 =>
  (fX12_isSmall h r182).bind fun r185 =>
  if r185 = 0 then
    (fX12_peek h a0).bind fun r192 =>
    (fX12_isDigit h r192).bind fun r195 =>
    if r195 = 0 then
      if l3 = 0 then
        (fX12_next_b320 h a0).map (fun z9 => .inr (z9))
      else
        if l2 = 0 then
          (fX12_next_b317 h l2 3 (h a0 14) a0).map (fun z9 => .inr (z9))
        else
          (fX12_next_b317 h l2 7 (h a0 14) a0).map (fun z9 => .inr (z9))
    else
      fX12_next_b201 h a0 l2 l3
  else
    fX12_next_b201 h a0 l2 l3
noncomputable def fX12_next_b164 (h : hH) (a0 l1 : Int) : Option (hH) :=
  (fX12_isSmall h l1).bind fun r165 =>
  (pput h a0 18 0).bind fun h173 =>
  (pput h173 a0 15 0).bind fun h178 =>
  lpO (fX12_next_s181 h178 a0 r165) (h178, 1)
noncomputable def fX12_next_b80 (h : hH) (a0 : Int) : Option (hH) :=
  (fX12_peek h a0).bind fun r81 =>
  if r81 < 0 then
    (pput h a0 12 0).bind fun h91 =>
    some h91
  else
    (fX12_isSmall h r81).bind fun r96 =>
    if r96 = 0 then
      (fX12_isDigit h r81).bind fun r103 =>
      if r103 = 0 then
        if r81 = 59 then
          fX12_next_b140 h a0 r81 a0
        else
          if r81 = 40 then
            fX12_next_b140 h a0 r81 a0
          else
            if r81 = 41 then
              fX12_next_b140 h a0 r81 a0
            else
              if r81 < 60 then
                fX12_next_b144 h a0 r81 a0
              else
                if 62 < r81 then
                  fX12_next_b144 h a0 r81 a0
                else
                  fX12_next_b140 h a0 r81 a0
      else
        fX12_next_b164 h a0 r81
    else
      fX12_next_b164 h a0 r81
noncomputable def fX12_next_b18 (h : hH) (a0 : Int) : Option ((hH) ⊕ (hH)) :=
  (pput h a0 4 (w32 ((h a0 4) + 1))).bind fun h25 =>
  some (.inl h25)
noncomputable def fX12_next_s0 (h0 : hH) (a0 : Int) : hH → Option ((hH) ⊕ (hH)) := fun h =>
  (fX12_peek h a0).bind fun r1 =>
  if r1 = 32 then
    fX12_next_b18 h a0
  else
    (fX12_peek h a0).bind fun r10 =>
    if r10 = 10 then
      fX12_next_b18 h a0
    else
      (pput h a0 13 (h a0 4)).bind fun h36 =>
      (pput h36 a0 14 0).bind fun h41 =>
      if h41 a0 5 < h41 a0 3 then
        if h41 a0 4 < h41 a0 5 then
          (fX12_next_b80 h41 a0).map (fun z9 => .inr (z9))
        else
          (pput h41 a0 13 (h41 a0 5)).bind fun h71 =>
          (pput h71 a0 12 4).bind fun h76 =>
          some (.inr (h76))
      else
        (fX12_next_b80 h41 a0).map (fun z9 => .inr (z9))
noncomputable def fX12_next (h : hH) (a0 : Int) : Option (hH) :=
  lpO (fX12_next_s0 h a0) h
section M_X12_next
variable {p : Program} {l : Launch} {e : Env} {R : Room} {s : State} {m : MethodId} {args : Array Value} {below : List Frame} {meth : Method} {c : Code} {D : va_G} {G : gG} {A : Nat → Prop} {H0 : Heap} {n0 : Int} {x : Option vV × hH} {h : hH}
set_option maxRecDepth 100000 in
set_option maxHeartbeats 4000000 in
theorem oX12_next_b145 {a0 l1 s0 s1 : Int} {K : hH → Prop} (k0 : ∀ r, K (r) → x = (none, r)) {r : hH} (hr : fX12_next_b145 h a0 l1 s0 s1 = some r) (hk : K r) : Wq p l e R s m args below meth c D G A H0 true n0 M_X12_next x 0 0 145 [(0, (22, a0)), (1, (0, l1))] [(0, s0), (22, s1)] h := by
  unfold fX12_next_b145 at hr
  obtain ⟨h145, hg145, hr⟩ := bnd hr
  refine r_put' 12 12 (t := 0) (ref := "FollowingRefsModel") hg145 rfl tyX12 tyX12_ok nmX12 rfl (by decide) rfl (by decide) inlX12 (wsl_23 _ (List.mem_of_getElem? (i := 14) rfl)) rfl rfl (by decide +kernel) (by decide) rfl (Or.inl ⟨rfl, rfl⟩) dX12_next_145 ?_
  refine r_aload_n dX12_next_148 rfl 0 rfl (nl rfl) ?_
  refine r_iload_n dX12_next_149 rfl 1 rfl (Or.inl rfl) ?_
  obtain ⟨h150, hg150, hr⟩ := bnd hr
  refine r_put' 12 15 (t := 0) (ref := "FollowingRefsModel") hg150 rfl tyX12 tyX12_ok nmX12 rfl (by decide) rfl (by decide) inlX12 (wsl_24 _ (List.mem_of_getElem? (i := 6) rfl)) rfl rfl (by decide +kernel) (by decide) rfl (Or.inl ⟨rfl, rfl⟩) dX12_next_150 ?_
  refine r_aload_n dX12_next_153 rfl 0 rfl (nl rfl) ?_
  refine r_dup dX12_next_154 (Nat.ne_of_beq_eq_false rfl) ?_
  refine r_get 12 4 (o := a0) (w := (0, h150 a0 4)) (T := TX12) (ref := "FollowingRefsModel") rfl (by decide) rfl (by decide) inlX12 (wsl_23 _ (List.mem_of_getElem? (i := 22) rfl)) rfl dX12_next_155 rfl ?_
  refine r_iconst dX12_next_158 (by decide) ?_
  refine r_iadd dX12_next_159 ?_
  obtain ⟨h160, hg160, hr⟩ := bnd hr
  refine r_put' 12 4 (t := 0) (ref := "FollowingRefsModel") hg160 rfl tyX12 tyX12_ok nmX12 rfl (by decide) rfl (by decide) inlX12 (wsl_23 _ (List.mem_of_getElem? (i := 22) rfl)) rfl rfl (by decide +kernel) (by decide) rfl (Or.inl ⟨rfl, rfl⟩) dX12_next_160 ?_
  obtain rfl := Option.some.inj hr
  exact r_vret dX12_next_163 rfl (k0 _ hk) ⟨rfl, rfl⟩
set_option maxRecDepth 100000 in
set_option maxHeartbeats 4000000 in
theorem oX12_next_b144 {a0 l1 s0 : Int} {K : hH → Prop} (k0 : ∀ r, K (r) → x = (none, r)) {r : hH} (hr : fX12_next_b144 h a0 l1 s0 = some r) (hk : K r) : Wq p l e R s m args below meth c D G A H0 true n0 M_X12_next x 0 0 144 [(0, (22, a0)), (1, (0, l1))] [(22, s0)] h := by
  unfold fX12_next_b144 at hr
  refine r_iconst dX12_next_144 (by decide) ?_
  exact oX12_next_b145 (K := K) (fun r z => k0 r z) hr hk
set_option maxRecDepth 100000 in
set_option maxHeartbeats 4000000 in
theorem oX12_next_b140 {a0 l1 s0 : Int} {K : hH → Prop} (k0 : ∀ r, K (r) → x = (none, r)) {r : hH} (hr : fX12_next_b140 h a0 l1 s0 = some r) (hk : K r) : Wq p l e R s m args below meth c D G A H0 true n0 M_X12_next x 0 0 140 [(0, (22, a0)), (1, (0, l1))] [(22, s0)] h := by
  unfold fX12_next_b140 at hr
  refine r_iconst dX12_next_140 (by decide) ?_
  refine r_goto dX12_next_141 (tgt := 145) (by decide) ?_
  exact oX12_next_b145 (K := K) (fun r z => k0 r z) hr hk
set_option maxRecDepth 100000 in
set_option maxHeartbeats 4000000 in
theorem oX12_next_b333 {s0 s1 : Int} {K : hH → Prop} (k0 : ∀ r, K (r) → x = (none, r)) {r : hH} (hr : fX12_next_b333 h s0 s1 = some r) (hk : K r) : Wq p l e R s m args below meth c D G A H0 true n0 M_X12_next x 0 0 333 [] [(0, s0), (22, s1)] h := by
  unfold fX12_next_b333 at hr
  obtain ⟨h333, hg333, hr⟩ := bnd hr
  refine r_put' 12 12 (t := 0) (ref := "FollowingRefsModel") hg333 rfl tyX12 tyX12_ok nmX12 rfl (by decide) rfl (by decide) inlX12 (wsl_23 _ (List.mem_of_getElem? (i := 14) rfl)) rfl rfl (by decide +kernel) (by decide) rfl (Or.inl ⟨rfl, rfl⟩) dX12_next_333 ?_
  obtain rfl := Option.some.inj hr
  exact r_vret dX12_next_336 rfl (k0 _ hk) ⟨rfl, rfl⟩
set_option maxRecDepth 100000 in
set_option maxHeartbeats 4000000 in
theorem oX12_next_b320 {s0 : Int} {K : hH → Prop} (k0 : ∀ r, K (r) → x = (none, r)) {r : hH} (hr : fX12_next_b320 h s0 = some r) (hk : K r) : Wq p l e R s m args below meth c D G A H0 true n0 M_X12_next x 0 0 320 [] [(22, s0)] h := by
  unfold fX12_next_b320 at hr
  refine r_iconst dX12_next_320 (by decide) ?_
  refine r_goto dX12_next_321 (tgt := 333) (by decide) ?_
  exact oX12_next_b333 (K := K) (fun r z => k0 r z) hr hk
set_option maxRecDepth 100000 in
set_option maxHeartbeats 4000000 in
theorem oX12_next_b317 {l2 s0 s1 s2 : Int} {K : hH → Prop} (k0 : ∀ r, K (r) → x = (none, r)) {r : hH} (hr : fX12_next_b317 h l2 s0 s1 s2 = some r) (hk : K r) : Wq p l e R s m args below meth c D G A H0 true n0 M_X12_next x 0 0 317 [(2, (2, l2))] [(0, s0), (0, s1), (22, s2)] h := by
  unfold fX12_next_b317 at hr
  refine r_icmp_le dX12_next_317 (tgt := 324) (by decide) (fun hc => ?_) (fun hc => ?_)
  · have hr := ifn hr hc
    refine r_iload_n dX12_next_324 rfl 0 rfl (Or.inr rfl) ?_
    refine r_scast 0 (v := (2, l2)) (w := (0, l2)) rfl zc hTz (st' := [(0, l2), (22, s2)]) rfl ?_
    refine r_if_eq dX12_next_325 (tgt := 332) (by decide) (fun hc => ?_) (fun hc => ?_)
    · have hr := ifp hr hc
      refine r_iconst dX12_next_332 (by decide) ?_
      refine r_sub [] (lv' := []) rfl ?_
      exact oX12_next_b333 (K := K) (fun r z => k0 r z) hr hk
    · have hr := ifn hr hc
      refine r_iconst dX12_next_328 (by decide) ?_
      refine r_goto dX12_next_329 (tgt := 333) (by decide) ?_
      refine r_sub [] (lv' := []) rfl ?_
      exact oX12_next_b333 (K := K) (fun r z => k0 r z) hr hk
  · have hr := ifp hr hc
    refine r_sub [] (lv' := []) rfl ?_
    exact oX12_next_b320 (K := K) (fun r z => k0 r z) hr hk
set_option maxRecDepth 100000 in
set_option maxHeartbeats 4000000 in
theorem oX12_next_b275 {a0 l2 l3 : Int} {K : (hH × Int) ⊕ (hH) → Prop} (k0 : ∀ r, K (.inr (r)) → x = (none, r)) (k1 : ∀ (h : hH) (l3 : Int), K (.inl (h, l3)) → Wq p l e R s m args below meth c D G A H0 true n0 M_X12_next x 0 0 181 [(0, (22, a0)), (2, (2, l2)), (3, (2, l3))] [] h) {r : (hH × Int) ⊕ (hH)} (hr : fX12_next_b275 h a0 l2 l3 = some r) (hk : K r) : Wq p l e R s m args below meth c D G A H0 true n0 M_X12_next x 0 0 275 [(0, (22, a0)), (2, (2, l2)), (3, (2, l3))] [] h := by
  unfold fX12_next_b275 at hr
  refine r_aload_n dX12_next_275 rfl 0 rfl (nl rfl) ?_
  refine r_dup dX12_next_276 (Nat.ne_of_beq_eq_false rfl) ?_
  refine r_get 12 14 (o := a0) (w := (0, h a0 14)) (T := TX12) (ref := "FollowingRefsModel") rfl (by decide) rfl (by decide) inlX12 (wsl_24 _ (List.mem_of_getElem? (i := 5) rfl)) rfl dX12_next_277 rfl ?_
  refine r_iconst dX12_next_280 (by decide) ?_
  refine r_iadd dX12_next_281 ?_
  obtain ⟨h282, hg282, hr⟩ := bnd hr
  refine r_put' 12 14 (t := 0) (ref := "FollowingRefsModel") hg282 rfl tyX12 tyX12_ok nmX12 rfl (by decide) rfl (by decide) inlX12 (wsl_24 _ (List.mem_of_getElem? (i := 5) rfl)) rfl rfl (by decide +kernel) (by decide) rfl (Or.inl ⟨rfl, rfl⟩) dX12_next_282 ?_
  refine r_aload_n dX12_next_285 rfl 0 rfl (nl rfl) ?_
  refine r_dup dX12_next_286 (Nat.ne_of_beq_eq_false rfl) ?_
  refine r_get 12 4 (o := a0) (w := (0, h282 a0 4)) (T := TX12) (ref := "FollowingRefsModel") rfl (by decide) rfl (by decide) inlX12 (wsl_23 _ (List.mem_of_getElem? (i := 22) rfl)) rfl dX12_next_287 rfl ?_
  refine r_iconst dX12_next_290 (by decide) ?_
  refine r_iadd dX12_next_291 ?_
  obtain ⟨h292, hg292, hr⟩ := bnd hr
  refine r_put' 12 4 (t := 0) (ref := "FollowingRefsModel") hg292 rfl tyX12 tyX12_ok nmX12 rfl (by decide) rfl (by decide) inlX12 (wsl_23 _ (List.mem_of_getElem? (i := 22) rfl)) rfl rfl (by decide +kernel) (by decide) rfl (Or.inl ⟨rfl, rfl⟩) dX12_next_292 ?_
  refine r_goto dX12_next_295 (tgt := 181) (by decide) ?_
  obtain rfl := Option.some.inj hr
  exact k1 _ _ hk
set_option maxRecDepth 100000 in
set_option maxHeartbeats 4000000 in
theorem oX12_next_b248 {a0 l2 l3 : Int} {K : (hH × Int) ⊕ (hH) → Prop} (k0 : ∀ r, K (.inr (r)) → x = (none, r)) (k1 : ∀ (h : hH) (l3 : Int), K (.inl (h, l3)) → Wq p l e R s m args below meth c D G A H0 true n0 M_X12_next x 0 0 181 [(0, (22, a0)), (2, (2, l2)), (3, (2, l3))] [] h) {r : (hH × Int) ⊕ (hH)} (hr : fX12_next_b248 h a0 l2 l3 = some r) (hk : K r) : Wq p l e R s m args below meth c D G A H0 true n0 M_X12_next x 0 0 248 [(0, (22, a0)), (2, (2, l2)), (3, (2, l3))] [] h := by
  unfold fX12_next_b248 at hr
  refine r_aload_n dX12_next_248 rfl 0 rfl (nl rfl) ?_
  refine r_get 12 14 (o := a0) (w := (0, h a0 14)) (T := TX12) (ref := "FollowingRefsModel") rfl (by decide) rfl (by decide) inlX12 (wsl_24 _ (List.mem_of_getElem? (i := 5) rfl)) rfl dX12_next_249 rfl ?_
  refine r_iconst dX12_next_252 (by decide) ?_
  refine r_icmp_ge dX12_next_253 (tgt := 275) (by decide) (fun hc => ?_) (fun hc => ?_)
  · have hr := ifn hr hc
    exact oX12_next_b275 (K := K) (fun r z => k0 r z) (fun _ _ z => k1 _ _ z) hr hk
  · have hr := ifp hr hc
    refine r_aload_n dX12_next_256 rfl 0 rfl (nl rfl) ?_
    refine r_bipush dX12_next_257 (by decide) (by decide) ?_
    refine r_aload_n dX12_next_259 rfl 0 rfl (nl rfl) ?_
    refine r_get 12 15 (o := a0) (w := (0, h a0 15)) (T := TX12) (ref := "FollowingRefsModel") rfl (by decide) rfl (by decide) inlX12 (wsl_24 _ (List.mem_of_getElem? (i := 6) rfl)) rfl dX12_next_260 rfl ?_
    refine r_imul dX12_next_263 ?_
    refine r_aload_n dX12_next_264 rfl 0 rfl (nl rfl) ?_
    obtain ⟨r265, hg265, hr⟩ := bnd hr
    refine k_V (ci := 12) (o := a0) (T := TX12) (as := []) (rest := [(0, w32 (10 * (h a0 15))), (22, a0)]) (X := (some (0, r265), h)) (oX12_peek hg265) gX12_peek rfl (by decide) rfl (wsl_24 _ (List.mem_of_getElem? (i := 8) rfl)) rfl dX12_next_265 rfl ?_
    refine r_iadd dX12_next_268 ?_
    refine r_bipush dX12_next_269 (by decide) (by decide) ?_
    refine r_isub dX12_next_271 ?_
    obtain ⟨h272, hg272, hr⟩ := bnd hr
    refine r_put' 12 15 (t := 0) (ref := "FollowingRefsModel") hg272 rfl tyX12 tyX12_ok nmX12 rfl (by decide) rfl (by decide) inlX12 (wsl_24 _ (List.mem_of_getElem? (i := 6) rfl)) rfl rfl (by decide +kernel) (by decide) rfl (Or.inl ⟨rfl, rfl⟩) dX12_next_272 ?_
    exact oX12_next_b275 (K := K) (fun r z => k0 r z) (fun _ _ z => k1 _ _ z) hr hk
set_option maxRecDepth 100000 in
set_option maxHeartbeats 4000000 in
theorem oX12_next_b221 {a0 l2 s0 : Int} {K : (hH × Int) ⊕ (hH) → Prop} (k0 : ∀ r, K (.inr (r)) → x = (none, r)) (k1 : ∀ (h : hH) (l3 : Int), K (.inl (h, l3)) → Wq p l e R s m args below meth c D G A H0 true n0 M_X12_next x 0 0 181 [(0, (22, a0)), (2, (2, l2)), (3, (2, l3))] [] h) {r : (hH × Int) ⊕ (hH)} (hr : fX12_next_b221 h a0 l2 s0 = some r) (hk : K r) : Wq p l e R s m args below meth c D G A H0 true n0 M_X12_next x 0 0 221 [(0, (22, a0)), (2, (2, l2))] [(2, s0)] h := by
  unfold fX12_next_b221 at hr
  refine r_istore_n dX12_next_221 rfl (Or.inr rfl) (by decide) (lv' := [(3, (2, s0)), (0, (22, a0)), (2, (2, l2))]) rfl ?_
  refine r_aload_n dX12_next_222 rfl 1 rfl (nl rfl) ?_
  refine r_get 12 14 (o := a0) (w := (0, h a0 14)) (T := TX12) (ref := "FollowingRefsModel") rfl (by decide) rfl (by decide) inlX12 (wsl_24 _ (List.mem_of_getElem? (i := 5) rfl)) rfl dX12_next_223 rfl ?_
  refine r_bipush dX12_next_226 (by decide) (by decide) ?_
  refine r_icmp_ge dX12_next_228 (tgt := 248) (by decide) (fun hc => ?_) (fun hc => ?_)
  · have hr := ifn hr hc
    refine r_sub [1, 2, 0] (lv' := [(0, (22, a0)), (2, (2, l2)), (3, (2, s0))]) rfl ?_
    exact oX12_next_b248 (K := K) (fun r z => k0 r z) (fun _ _ z => k1 _ _ z) hr hk
  · have hr := ifp hr hc
    refine r_aload_n dX12_next_231 rfl 1 rfl (nl rfl) ?_
    refine r_aload_n dX12_next_232 rfl 1 rfl (nl rfl) ?_
    refine r_get 12 18 (o := a0) (w := (1, h a0 18)) (T := TX12) (ref := "FollowingRefsModel") rfl (by decide) rfl (by decide) inlX12 (wsl_24 _ (List.mem_of_getElem? (i := 7) rfl)) rfl dX12_next_233 rfl ?_
    refine r_bipush dX12_next_236 (by decide) (by decide) ?_
    refine r_lshl dX12_next_238 ?_
    refine r_aload_n dX12_next_239 rfl 1 rfl (nl rfl) ?_
    obtain ⟨r240, hg240, hr⟩ := bnd hr
    refine k_V (ci := 12) (o := a0) (T := TX12) (as := []) (rest := [(1, lshD (h a0 18) 8), (22, a0)]) (X := (some (0, r240), h)) (oX12_peek hg240) gX12_peek rfl (by decide) rfl (wsl_24 _ (List.mem_of_getElem? (i := 8) rfl)) rfl dX12_next_240 rfl ?_
    refine r_i2l dX12_next_243 ?_
    refine r_lor dX12_next_244 ?_
    obtain ⟨h245, hg245, hr⟩ := bnd hr
    refine r_put' 12 18 (t := 1) (ref := "FollowingRefsModel") hg245 rfl tyX12 tyX12_ok nmX12 rfl (by decide) rfl (by decide) inlX12 (wsl_24 _ (List.mem_of_getElem? (i := 7) rfl)) rfl rfl (by decide +kernel) (by decide) rfl (Or.inr (Or.inl ⟨rfl, rfl⟩)) dX12_next_245 ?_
    refine r_sub [1, 2, 0] (lv' := [(0, (22, a0)), (2, (2, l2)), (3, (2, s0))]) rfl ?_
    exact oX12_next_b248 (K := K) (fun r z => k0 r z) (fun _ _ z => k1 _ _ z) hr hk
set_option maxRecDepth 100000 in
set_option maxHeartbeats 4000000 in
theorem oX12_next_b220 {a0 l2 : Int} {K : (hH × Int) ⊕ (hH) → Prop} (k0 : ∀ r, K (.inr (r)) → x = (none, r)) (k1 : ∀ (h : hH) (l3 : Int), K (.inl (h, l3)) → Wq p l e R s m args below meth c D G A H0 true n0 M_X12_next x 0 0 181 [(0, (22, a0)), (2, (2, l2)), (3, (2, l3))] [] h) {r : (hH × Int) ⊕ (hH)} (hr : fX12_next_b220 h a0 l2 = some r) (hk : K r) : Wq p l e R s m args below meth c D G A H0 true n0 M_X12_next x 0 0 220 [(0, (22, a0)), (2, (2, l2))] [] h := by
  unfold fX12_next_b220 at hr
  refine r_iconst dX12_next_220 (by decide) ?_
  refine r_scast 0 (v := (0, 0)) (w := (2, 0)) rfl cz (fun _ => Or.inl rfl) (st' := [(2, 0)]) rfl ?_
  exact oX12_next_b221 (K := K) (fun r z => k0 r z) (fun _ _ z => k1 _ _ z) hr hk
set_option maxRecDepth 100000 in
set_option maxHeartbeats 4000000 in
theorem oX12_next_b201 {a0 l2 l3 : Int} {K : (hH × Int) ⊕ (hH) → Prop} (k0 : ∀ r, K (.inr (r)) → x = (none, r)) (k1 : ∀ (h : hH) (l3 : Int), K (.inl (h, l3)) → Wq p l e R s m args below meth c D G A H0 true n0 M_X12_next x 0 0 181 [(0, (22, a0)), (2, (2, l2)), (3, (2, l3))] [] h) {r : (hH × Int) ⊕ (hH)} (hr : fX12_next_b201 h a0 l2 l3 = some r) (hk : K r) : Wq p l e R s m args below meth c D G A H0 true n0 M_X12_next x 0 0 201 [(0, (22, a0)), (2, (2, l2)), (3, (2, l3))] [] h := by
  unfold fX12_next_b201 at hr
  refine r_iload_n dX12_next_201 rfl 2 rfl (Or.inr rfl) ?_
  refine r_scast 0 (v := (2, l3)) (w := (0, l3)) rfl zc hTz (st' := [(0, l3)]) rfl ?_
  refine r_if_eq dX12_next_202 (tgt := 220) (by decide) (fun hc => ?_) (fun hc => ?_)
  · have hr := ifp hr hc
    refine r_sub [0, 1] (lv' := [(0, (22, a0)), (2, (2, l2))]) rfl ?_
    exact oX12_next_b220 (K := K) (fun r z => k0 r z) (fun _ _ z => k1 _ _ z) hr hk
  · have hr := ifn hr hc
    refine r_aload_n dX12_next_205 rfl 0 rfl (nl rfl) ?_
    obtain ⟨r206, hg206, hr⟩ := bnd hr
    refine k_V (ci := 12) (o := a0) (T := TX12) (as := []) (rest := []) (X := (some (0, r206), h)) (oX12_peek hg206) gX12_peek rfl (by decide) rfl (wsl_24 _ (List.mem_of_getElem? (i := 8) rfl)) rfl dX12_next_206 rfl ?_
    obtain ⟨r209, hg209, hr⟩ := bnd hr
    refine k_S (as := [(0, r206)]) (rest := []) (X := (some (2, r209), h)) (oX12_isSmall hg209) gX12_isSmall rfl (wsl_24 _ (List.mem_of_getElem? (i := 12) rfl)) rfl dX12_next_209 rfl ?_
    refine r_iload_n dX12_next_212 rfl 1 rfl (Or.inr rfl) ?_
    refine r_scast 0 (v := (2, l2)) (w := (0, l2)) rfl zc hTz (st' := [(0, l2), (2, r209)]) rfl ?_
    refine r_scast 1 (v := (2, r209)) (w := (0, r209)) rfl zc hTz (st' := [(0, l2), (0, r209)]) rfl ?_
    refine r_icmp_ne dX12_next_213 (tgt := 220) (by decide) (fun hc => ?_) (fun hc => ?_)
    · have hr := ifn hr hc
      refine r_sub [0, 1] (lv' := [(0, (22, a0)), (2, (2, l2))]) rfl ?_
      exact oX12_next_b220 (K := K) (fun r z => k0 r z) (fun _ _ z => k1 _ _ z) hr hk
    · have hr := ifp hr hc
      refine r_iconst dX12_next_216 (by decide) ?_
      refine r_goto dX12_next_217 (tgt := 221) (by decide) ?_
      refine r_sub [0, 1] (lv' := [(0, (22, a0)), (2, (2, l2))]) rfl ?_
      refine r_scast 0 (v := (0, 1)) (w := (2, 1)) rfl cz (fun _ => Or.inr rfl) (st' := [(2, 1)]) rfl ?_
      exact oX12_next_b221 (K := K) (fun r z => k0 r z) (fun _ _ z => k1 _ _ z) hr hk
set_option maxRecDepth 100000 in
set_option maxHeartbeats 4000000 in
theorem oX12_next_s181 {h0 : hH} {a0 l2 l3 : Int} {K : (hH × Int) ⊕ (hH) → Prop} (k0 : ∀ r, K (.inr (r)) → x = (none, r)) (k1 : ∀ (h : hH) (l3 : Int), K (.inl (h, l3)) → Wq p l e R s m args below meth c D G A H0 true n0 M_X12_next x 0 0 181 [(0, (22, a0)), (2, (2, l2)), (3, (2, l3))] [] h) {r : (hH × Int) ⊕ (hH)} (hr : fX12_next_s181 h0 a0 l2 (h, l3) = some r) (hk : K r) : Wq p l e R s m args below meth c D G A H0 true n0 M_X12_next x 0 0 181 [(0, (22, a0)), (2, (2, l2)), (3, (2, l3))] [] h := by
  unfold fX12_next_s181 at hr
  refine r_aload_n dX12_next_181 rfl 0 rfl (nl rfl) ?_
  obtain ⟨r182, hg182, hr⟩ := bnd hr
  refine k_V (ci := 12) (o := a0) (T := TX12) (as := []) (rest := []) (X := (some (0, r182), h)) (oX12_peek hg182) gX12_peek rfl (by decide) rfl (wsl_24 _ (List.mem_of_getElem? (i := 8) rfl)) rfl dX12_next_182 rfl ?_
  obtain ⟨r185, hg185, hr⟩ := bnd hr
  refine k_S (as := [(0, r182)]) (rest := []) (X := (some (2, r185), h)) (oX12_isSmall hg185) gX12_isSmall rfl (wsl_24 _ (List.mem_of_getElem? (i := 12) rfl)) rfl dX12_next_185 rfl ?_
  refine r_scast 0 (v := (2, r185)) (w := (0, r185)) rfl zc hTz (st' := [(0, r185)]) rfl ?_
  refine r_if_ne dX12_next_188 (tgt := 201) (by decide) (fun hc => ?_) (fun hc => ?_)
  · have hr := ifn hr hc
    exact oX12_next_b201 (K := K) (fun r z => k0 r z) (fun _ _ z => k1 _ _ z) hr hk
  · have hr := ifp hr hc
    refine r_aload_n dX12_next_191 rfl 0 rfl (nl rfl) ?_
    obtain ⟨r192, hg192, hr⟩ := bnd hr
    refine k_V (ci := 12) (o := a0) (T := TX12) (as := []) (rest := []) (X := (some (0, r192), h)) (oX12_peek hg192) gX12_peek rfl (by decide) rfl (wsl_24 _ (List.mem_of_getElem? (i := 8) rfl)) rfl dX12_next_192 rfl ?_
    obtain ⟨r195, hg195, hr⟩ := bnd hr
    refine k_S (as := [(0, r192)]) (rest := []) (X := (some (2, r195), h)) (oX12_isDigit hg195) gX12_isDigit rfl (wsl_24 _ (List.mem_of_getElem? (i := 15) rfl)) rfl dX12_next_195 rfl ?_
    refine r_scast 0 (v := (2, r195)) (w := (0, r195)) rfl zc hTz (st' := [(0, r195)]) rfl ?_
    refine r_if_eq dX12_next_198 (tgt := 298) (by decide) (fun hc => ?_) (fun hc => ?_)
    · have hr := ifp hr hc
      refine r_aload_n dX12_next_298 rfl 0 rfl (nl rfl) ?_
      refine r_iload_n dX12_next_299 rfl 2 rfl (Or.inr rfl) ?_
      refine r_scast 0 (v := (2, l3)) (w := (0, l3)) rfl zc hTz (st' := [(0, l3), (22, a0)]) rfl ?_
      refine r_if_eq dX12_next_300 (tgt := 320) (by decide) (fun hc => ?_) (fun hc => ?_)
      · have hr := ifp hr hc
        refine r_sub [] (lv' := []) rfl ?_
        obtain ⟨r9, hr9, rfl⟩ := mpp hr
        exact oX12_next_b320 (K := fun z9 => K (.inr (z9))) (fun r z => k0 r z) hr9 hk
      · have hr := ifn hr hc
        refine r_aload_n dX12_next_303 rfl 0 rfl (nl rfl) ?_
        refine r_get 12 14 (o := a0) (w := (0, h a0 14)) (T := TX12) (ref := "FollowingRefsModel") rfl (by decide) rfl (by decide) inlX12 (wsl_24 _ (List.mem_of_getElem? (i := 5) rfl)) rfl dX12_next_304 rfl ?_
        refine r_iload_n dX12_next_307 rfl 1 rfl (Or.inr rfl) ?_
        refine r_scast 0 (v := (2, l2)) (w := (0, l2)) rfl zc hTz (st' := [(0, l2), (0, h a0 14), (22, a0)]) rfl ?_
        refine r_if_eq dX12_next_308 (tgt := 316) (by decide) (fun hc => ?_) (fun hc => ?_)
        · have hr := ifp hr hc
          refine r_iconst dX12_next_316 (by decide) ?_
          refine r_sub [1] (lv' := [(2, (2, l2))]) rfl ?_
          obtain ⟨r9, hr9, rfl⟩ := mpp hr
          exact oX12_next_b317 (K := fun z9 => K (.inr (z9))) (fun r z => k0 r z) hr9 hk
        · have hr := ifn hr hc
          refine r_bipush dX12_next_311 (by decide) (by decide) ?_
          refine r_goto dX12_next_313 (tgt := 317) (by decide) ?_
          refine r_sub [1] (lv' := [(2, (2, l2))]) rfl ?_
          obtain ⟨r9, hr9, rfl⟩ := mpp hr
          exact oX12_next_b317 (K := fun z9 => K (.inr (z9))) (fun r z => k0 r z) hr9 hk
    · have hr := ifn hr hc
      exact oX12_next_b201 (K := K) (fun r z => k0 r z) (fun _ _ z => k1 _ _ z) hr hk
set_option maxRecDepth 100000 in
set_option maxHeartbeats 4000000 in
theorem oX12_next_b164 {a0 l1 : Int} {K : hH → Prop} (k0 : ∀ r, K (r) → x = (none, r)) {r : hH} (hr : fX12_next_b164 h a0 l1 = some r) (hk : K r) : Wq p l e R s m args below meth c D G A H0 true n0 M_X12_next x 0 0 164 [(0, (22, a0)), (1, (0, l1))] [] h := by
  unfold fX12_next_b164 at hr
  refine r_iload_n dX12_next_164 rfl 1 rfl (Or.inl rfl) ?_
  obtain ⟨r165, hg165, hr⟩ := bnd hr
  refine k_S (as := [(0, l1)]) (rest := []) (X := (some (2, r165), h)) (oX12_isSmall hg165) gX12_isSmall rfl (wsl_24 _ (List.mem_of_getElem? (i := 12) rfl)) rfl dX12_next_165 rfl ?_
  refine r_istore_n dX12_next_168 rfl (Or.inr rfl) (by decide) (lv' := [(2, (2, r165)), (0, (22, a0)), (1, (0, l1))]) rfl ?_
  refine r_iconst dX12_next_169 (by decide) ?_
  refine r_istore_n dX12_next_170 rfl (Or.inl rfl) (by decide) (lv' := [(3, (0, 1)), (2, (2, r165)), (0, (22, a0)), (1, (0, l1))]) rfl ?_
  refine r_aload_n dX12_next_171 rfl 2 rfl (nl rfl) ?_
  refine r_lconst (v := 0) dX12_next_172 (by decide) (by decide) ?_
  obtain ⟨h173, hg173, hr⟩ := bnd hr
  refine r_put' 12 18 (t := 1) (ref := "FollowingRefsModel") hg173 rfl tyX12 tyX12_ok nmX12 rfl (by decide) rfl (by decide) inlX12 (wsl_24 _ (List.mem_of_getElem? (i := 7) rfl)) rfl rfl (by decide +kernel) (by decide) rfl (Or.inr (Or.inl ⟨rfl, rfl⟩)) dX12_next_173 ?_
  refine r_aload_n dX12_next_176 rfl 2 rfl (nl rfl) ?_
  refine r_iconst dX12_next_177 (by decide) ?_
  obtain ⟨h178, hg178, hr⟩ := bnd hr
  refine r_put' 12 15 (t := 0) (ref := "FollowingRefsModel") hg178 rfl tyX12 tyX12_ok nmX12 rfl (by decide) rfl (by decide) inlX12 (wsl_24 _ (List.mem_of_getElem? (i := 6) rfl)) rfl rfl (by decide +kernel) (by decide) rfl (Or.inl ⟨rfl, rfl⟩) dX12_next_178 ?_
  refine r_lcast 0 (v := (0, 1)) (w := (2, 1)) rfl cz (fun _ => Or.inr rfl) (lv' := [(3, (2, 1)), (2, (2, r165)), (0, (22, a0)), (1, (0, l1))]) rfl ?_
  refine r_sub [2, 1, 0] (lv' := [(0, (22, a0)), (2, (2, r165)), (3, (2, 1))]) rfl ?_
  exact lp_ok (w := fun (q : hH × Int) => Wq p l e R s m args below meth c D G A H0 true n0 M_X12_next x 0 0 181 [(0, (22, a0)), (2, (2, r165)), (3, (2, q.2))] [] (q.1)) (K := K) (fun ⟨q0, q1⟩ r h1 h2 => oX12_next_s181 (K := Sum.elim (fun (q : hH × Int) => Wq p l e R s m args below meth c D G A H0 true n0 M_X12_next x 0 0 181 [(0, (22, a0)), (2, (2, r165)), (3, (2, q.2))] [] (q.1)) (K)) (fun r z => k0 r z) (fun _ _ z => z) h1 h2) hr hk
set_option maxRecDepth 100000 in
set_option maxHeartbeats 4000000 in
theorem oX12_next_b80 {a0 : Int} {K : hH → Prop} (k0 : ∀ r, K (r) → x = (none, r)) {r : hH} (hr : fX12_next_b80 h a0 = some r) (hk : K r) : Wq p l e R s m args below meth c D G A H0 true n0 M_X12_next x 0 0 80 [(0, (22, a0))] [] h := by
  unfold fX12_next_b80 at hr
  refine r_aload_n dX12_next_80 rfl 0 rfl (nl rfl) ?_
  obtain ⟨r81, hg81, hr⟩ := bnd hr
  refine k_V (ci := 12) (o := a0) (T := TX12) (as := []) (rest := []) (X := (some (0, r81), h)) (oX12_peek hg81) gX12_peek rfl (by decide) rfl (wsl_24 _ (List.mem_of_getElem? (i := 8) rfl)) rfl dX12_next_81 rfl ?_
  refine r_istore_n dX12_next_84 rfl (Or.inl rfl) (by decide) (lv' := [(1, (0, r81)), (0, (22, a0))]) rfl ?_
  refine r_iload_n dX12_next_85 rfl 0 rfl (Or.inl rfl) ?_
  refine r_if_ge dX12_next_86 (tgt := 95) (by decide) (fun hc => ?_) (fun hc => ?_)
  · have hr := ifn hr hc
    refine r_iload_n dX12_next_95 rfl 0 rfl (Or.inl rfl) ?_
    obtain ⟨r96, hg96, hr⟩ := bnd hr
    refine k_S (as := [(0, r81)]) (rest := []) (X := (some (2, r96), h)) (oX12_isSmall hg96) gX12_isSmall rfl (wsl_24 _ (List.mem_of_getElem? (i := 12) rfl)) rfl dX12_next_96 rfl ?_
    refine r_scast 0 (v := (2, r96)) (w := (0, r96)) rfl zc hTz (st' := [(0, r96)]) rfl ?_
    refine r_if_ne dX12_next_99 (tgt := 164) (by decide) (fun hc => ?_) (fun hc => ?_)
    · have hr := ifn hr hc
      refine r_sub [1, 0] (lv' := [(0, (22, a0)), (1, (0, r81))]) rfl ?_
      exact oX12_next_b164 (K := K) (fun r z => k0 r z) hr hk
    · have hr := ifp hr hc
      refine r_iload_n dX12_next_102 rfl 0 rfl (Or.inl rfl) ?_
      obtain ⟨r103, hg103, hr⟩ := bnd hr
      refine k_S (as := [(0, r81)]) (rest := []) (X := (some (2, r103), h)) (oX12_isDigit hg103) gX12_isDigit rfl (wsl_24 _ (List.mem_of_getElem? (i := 15) rfl)) rfl dX12_next_103 rfl ?_
      refine r_scast 0 (v := (2, r103)) (w := (0, r103)) rfl zc hTz (st' := [(0, r103)]) rfl ?_
      refine r_if_ne dX12_next_106 (tgt := 164) (by decide) (fun hc => ?_) (fun hc => ?_)
      · have hr := ifn hr hc
        refine r_sub [1, 0] (lv' := [(0, (22, a0)), (1, (0, r81))]) rfl ?_
        exact oX12_next_b164 (K := K) (fun r z => k0 r z) hr hk
      · have hr := ifp hr hc
        refine r_aload_n dX12_next_109 rfl 1 rfl (nl rfl) ?_
        refine r_iload_n dX12_next_110 rfl 0 rfl (Or.inl rfl) ?_
        refine r_bipush dX12_next_111 (by decide) (by decide) ?_
        refine r_icmp_eq dX12_next_113 (tgt := 140) (by decide) (fun hc => ?_) (fun hc => ?_)
        · have hr := ifp hr hc
          refine r_sub [1, 0] (lv' := [(0, (22, a0)), (1, (0, r81))]) rfl ?_
          exact oX12_next_b140 (K := K) (fun r z => k0 r z) hr hk
        · have hr := ifn hr hc
          refine r_iload_n dX12_next_116 rfl 0 rfl (Or.inl rfl) ?_
          refine r_bipush dX12_next_117 (by decide) (by decide) ?_
          refine r_icmp_eq dX12_next_119 (tgt := 140) (by decide) (fun hc => ?_) (fun hc => ?_)
          · have hr := ifp hr hc
            refine r_sub [1, 0] (lv' := [(0, (22, a0)), (1, (0, r81))]) rfl ?_
            exact oX12_next_b140 (K := K) (fun r z => k0 r z) hr hk
          · have hr := ifn hr hc
            refine r_iload_n dX12_next_122 rfl 0 rfl (Or.inl rfl) ?_
            refine r_bipush dX12_next_123 (by decide) (by decide) ?_
            refine r_icmp_eq dX12_next_125 (tgt := 140) (by decide) (fun hc => ?_) (fun hc => ?_)
            · have hr := ifp hr hc
              refine r_sub [1, 0] (lv' := [(0, (22, a0)), (1, (0, r81))]) rfl ?_
              exact oX12_next_b140 (K := K) (fun r z => k0 r z) hr hk
            · have hr := ifn hr hc
              refine r_iload_n dX12_next_128 rfl 0 rfl (Or.inl rfl) ?_
              refine r_bipush dX12_next_129 (by decide) (by decide) ?_
              refine r_icmp_lt dX12_next_131 (tgt := 144) (by decide) (fun hc => ?_) (fun hc => ?_)
              · have hr := ifp hr hc
                refine r_sub [1, 0] (lv' := [(0, (22, a0)), (1, (0, r81))]) rfl ?_
                exact oX12_next_b144 (K := K) (fun r z => k0 r z) hr hk
              · have hr := ifn hr hc
                refine r_iload_n dX12_next_134 rfl 0 rfl (Or.inl rfl) ?_
                refine r_bipush dX12_next_135 (by decide) (by decide) ?_
                refine r_icmp_gt dX12_next_137 (tgt := 144) (by decide) (fun hc => ?_) (fun hc => ?_)
                · have hr := ifp hr hc
                  refine r_sub [1, 0] (lv' := [(0, (22, a0)), (1, (0, r81))]) rfl ?_
                  exact oX12_next_b144 (K := K) (fun r z => k0 r z) hr hk
                · have hr := ifn hr hc
                  refine r_sub [1, 0] (lv' := [(0, (22, a0)), (1, (0, r81))]) rfl ?_
                  exact oX12_next_b140 (K := K) (fun r z => k0 r z) hr hk
  · have hr := ifp hr hc
    refine r_aload_n dX12_next_89 rfl 1 rfl (nl rfl) ?_
    refine r_iconst dX12_next_90 (by decide) ?_
    obtain ⟨h91, hg91, hr⟩ := bnd hr
    refine r_put' 12 12 (t := 0) (ref := "FollowingRefsModel") hg91 rfl tyX12 tyX12_ok nmX12 rfl (by decide) rfl (by decide) inlX12 (wsl_23 _ (List.mem_of_getElem? (i := 14) rfl)) rfl rfl (by decide +kernel) (by decide) rfl (Or.inl ⟨rfl, rfl⟩) dX12_next_91 ?_
    obtain rfl := Option.some.inj hr
    exact r_vret dX12_next_94 rfl (k0 _ hk) ⟨rfl, rfl⟩
set_option maxRecDepth 100000 in
set_option maxHeartbeats 4000000 in
theorem oX12_next_b18 {a0 : Int} {K : (hH) ⊕ (hH) → Prop} (k0 : ∀ r, K (.inr (r)) → x = (none, r)) (k1 : ∀ (h : hH), K (.inl h) → Wq p l e R s m args below meth c D G A H0 true n0 M_X12_next x 0 0 0 [(0, (22, a0))] [] h) {r : (hH) ⊕ (hH)} (hr : fX12_next_b18 h a0 = some r) (hk : K r) : Wq p l e R s m args below meth c D G A H0 true n0 M_X12_next x 0 0 18 [(0, (22, a0))] [] h := by
  unfold fX12_next_b18 at hr
  refine r_aload_n dX12_next_18 rfl 0 rfl (nl rfl) ?_
  refine r_dup dX12_next_19 (Nat.ne_of_beq_eq_false rfl) ?_
  refine r_get 12 4 (o := a0) (w := (0, h a0 4)) (T := TX12) (ref := "FollowingRefsModel") rfl (by decide) rfl (by decide) inlX12 (wsl_23 _ (List.mem_of_getElem? (i := 22) rfl)) rfl dX12_next_20 rfl ?_
  refine r_iconst dX12_next_23 (by decide) ?_
  refine r_iadd dX12_next_24 ?_
  obtain ⟨h25, hg25, hr⟩ := bnd hr
  refine r_put' 12 4 (t := 0) (ref := "FollowingRefsModel") hg25 rfl tyX12 tyX12_ok nmX12 rfl (by decide) rfl (by decide) inlX12 (wsl_23 _ (List.mem_of_getElem? (i := 22) rfl)) rfl rfl (by decide +kernel) (by decide) rfl (Or.inl ⟨rfl, rfl⟩) dX12_next_25 ?_
  refine r_goto dX12_next_28 (tgt := 0) (by decide) ?_
  obtain rfl := Option.some.inj hr
  exact k1 _ hk
set_option maxRecDepth 100000 in
set_option maxHeartbeats 4000000 in
theorem oX12_next_s0 {h0 : hH} {a0 : Int} {K : (hH) ⊕ (hH) → Prop} (k0 : ∀ r, K (.inr (r)) → x = (none, r)) (k1 : ∀ (h : hH), K (.inl h) → Wq p l e R s m args below meth c D G A H0 true n0 M_X12_next x 0 0 0 [(0, (22, a0))] [] h) {r : (hH) ⊕ (hH)} (hr : fX12_next_s0 h0 a0 h = some r) (hk : K r) : Wq p l e R s m args below meth c D G A H0 true n0 M_X12_next x 0 0 0 [(0, (22, a0))] [] h := by
  unfold fX12_next_s0 at hr
  refine r_aload_n dX12_next_0 rfl 0 rfl (nl rfl) ?_
  obtain ⟨r1, hg1, hr⟩ := bnd hr
  refine k_V (ci := 12) (o := a0) (T := TX12) (as := []) (rest := []) (X := (some (0, r1), h)) (oX12_peek hg1) gX12_peek rfl (by decide) rfl (wsl_24 _ (List.mem_of_getElem? (i := 8) rfl)) rfl dX12_next_1 rfl ?_
  refine r_bipush dX12_next_4 (by decide) (by decide) ?_
  refine r_icmp_eq dX12_next_6 (tgt := 18) (by decide) (fun hc => ?_) (fun hc => ?_)
  · have hr := ifp hr hc
    exact oX12_next_b18 (K := K) (fun r z => k0 r z) (fun _ z => k1 _ z) hr hk
  · have hr := ifn hr hc
    refine r_aload_n dX12_next_9 rfl 0 rfl (nl rfl) ?_
    obtain ⟨r10, hg10, hr⟩ := bnd hr
    refine k_V (ci := 12) (o := a0) (T := TX12) (as := []) (rest := []) (X := (some (0, r10), h)) (oX12_peek hg10) gX12_peek rfl (by decide) rfl (wsl_24 _ (List.mem_of_getElem? (i := 8) rfl)) rfl dX12_next_10 rfl ?_
    refine r_bipush dX12_next_13 (by decide) (by decide) ?_
    refine r_icmp_ne dX12_next_15 (tgt := 31) (by decide) (fun hc => ?_) (fun hc => ?_)
    · have hr := ifn hr hc
      refine r_aload_n dX12_next_31 rfl 0 rfl (nl rfl) ?_
      refine r_aload_n dX12_next_32 rfl 0 rfl (nl rfl) ?_
      refine r_get 12 4 (o := a0) (w := (0, h a0 4)) (T := TX12) (ref := "FollowingRefsModel") rfl (by decide) rfl (by decide) inlX12 (wsl_23 _ (List.mem_of_getElem? (i := 22) rfl)) rfl dX12_next_33 rfl ?_
      obtain ⟨h36, hg36, hr⟩ := bnd hr
      refine r_put' 12 13 (t := 0) (ref := "FollowingRefsModel") hg36 rfl tyX12 tyX12_ok nmX12 rfl (by decide) rfl (by decide) inlX12 (wsl_24 _ (List.mem_of_getElem? (i := 4) rfl)) rfl rfl (by decide +kernel) (by decide) rfl (Or.inl ⟨rfl, rfl⟩) dX12_next_36 ?_
      refine r_aload_n dX12_next_39 rfl 0 rfl (nl rfl) ?_
      refine r_iconst dX12_next_40 (by decide) ?_
      obtain ⟨h41, hg41, hr⟩ := bnd hr
      refine r_put' 12 14 (t := 0) (ref := "FollowingRefsModel") hg41 rfl tyX12 tyX12_ok nmX12 rfl (by decide) rfl (by decide) inlX12 (wsl_24 _ (List.mem_of_getElem? (i := 5) rfl)) rfl rfl (by decide +kernel) (by decide) rfl (Or.inl ⟨rfl, rfl⟩) dX12_next_41 ?_
      refine r_aload_n dX12_next_44 rfl 0 rfl (nl rfl) ?_
      refine r_get 12 3 (o := a0) (w := (0, h41 a0 3)) (T := TX12) (ref := "FollowingRefsModel") rfl (by decide) rfl (by decide) inlX12 (wsl_23 _ (List.mem_of_getElem? (i := 21) rfl)) rfl dX12_next_45 rfl ?_
      refine r_aload_n dX12_next_48 rfl 0 rfl (nl rfl) ?_
      refine r_get 12 5 (o := a0) (w := (0, h41 a0 5)) (T := TX12) (ref := "FollowingRefsModel") rfl (by decide) rfl (by decide) inlX12 (wsl_23 _ (List.mem_of_getElem? (i := 23) rfl)) rfl dX12_next_49 rfl ?_
      refine r_icmp_le dX12_next_52 (tgt := 80) (by decide) (fun hc => ?_) (fun hc => ?_)
      · have hr := ifn hr hc
        obtain ⟨r9, hr9, rfl⟩ := mpp hr
        exact oX12_next_b80 (K := fun z9 => K (.inr (z9))) (fun r z => k0 r z) hr9 hk
      · have hr := ifp hr hc
        refine r_aload_n dX12_next_55 rfl 0 rfl (nl rfl) ?_
        refine r_get 12 4 (o := a0) (w := (0, h41 a0 4)) (T := TX12) (ref := "FollowingRefsModel") rfl (by decide) rfl (by decide) inlX12 (wsl_23 _ (List.mem_of_getElem? (i := 22) rfl)) rfl dX12_next_56 rfl ?_
        refine r_aload_n dX12_next_59 rfl 0 rfl (nl rfl) ?_
        refine r_get 12 5 (o := a0) (w := (0, h41 a0 5)) (T := TX12) (ref := "FollowingRefsModel") rfl (by decide) rfl (by decide) inlX12 (wsl_23 _ (List.mem_of_getElem? (i := 23) rfl)) rfl dX12_next_60 rfl ?_
        refine r_icmp_lt dX12_next_63 (tgt := 80) (by decide) (fun hc => ?_) (fun hc => ?_)
        · have hr := ifp hr hc
          obtain ⟨r9, hr9, rfl⟩ := mpp hr
          exact oX12_next_b80 (K := fun z9 => K (.inr (z9))) (fun r z => k0 r z) hr9 hk
        · have hr := ifn hr hc
          refine r_aload_n dX12_next_66 rfl 0 rfl (nl rfl) ?_
          refine r_aload_n dX12_next_67 rfl 0 rfl (nl rfl) ?_
          refine r_get 12 5 (o := a0) (w := (0, h41 a0 5)) (T := TX12) (ref := "FollowingRefsModel") rfl (by decide) rfl (by decide) inlX12 (wsl_23 _ (List.mem_of_getElem? (i := 23) rfl)) rfl dX12_next_68 rfl ?_
          obtain ⟨h71, hg71, hr⟩ := bnd hr
          refine r_put' 12 13 (t := 0) (ref := "FollowingRefsModel") hg71 rfl tyX12 tyX12_ok nmX12 rfl (by decide) rfl (by decide) inlX12 (wsl_24 _ (List.mem_of_getElem? (i := 4) rfl)) rfl rfl (by decide +kernel) (by decide) rfl (Or.inl ⟨rfl, rfl⟩) dX12_next_71 ?_
          refine r_aload_n dX12_next_74 rfl 0 rfl (nl rfl) ?_
          refine r_iconst dX12_next_75 (by decide) ?_
          obtain ⟨h76, hg76, hr⟩ := bnd hr
          refine r_put' 12 12 (t := 0) (ref := "FollowingRefsModel") hg76 rfl tyX12 tyX12_ok nmX12 rfl (by decide) rfl (by decide) inlX12 (wsl_23 _ (List.mem_of_getElem? (i := 14) rfl)) rfl rfl (by decide +kernel) (by decide) rfl (Or.inl ⟨rfl, rfl⟩) dX12_next_76 ?_
          obtain rfl := Option.some.inj hr
          exact r_vret dX12_next_79 rfl (k0 _ hk) ⟨rfl, rfl⟩
    · have hr := ifp hr hc
      exact oX12_next_b18 (K := K) (fun r z => k0 r z) (fun _ z => k1 _ z) hr hk
set_option maxRecDepth 100000 in
set_option maxHeartbeats 4000000 in
theorem oX12_next_b0 {a0 : Int} {K : hH → Prop} (k0 : ∀ r, K (r) → x = (none, r)) {r : hH} (hr : fX12_next h a0 = some r) (hk : K r) : Wq p l e R s m args below meth c D G A H0 true n0 M_X12_next x 0 0 0 [(0, (22, a0))] [] h := by
  unfold fX12_next at hr
  exact lp_ok (w := fun (q : hH) => Wq p l e R s m args below meth c D G A H0 true n0 M_X12_next x 0 0 0 [(0, (22, a0))] [] (q)) (K := K) (fun q r h1 h2 => oX12_next_s0 (K := Sum.elim (fun (q : hH) => Wq p l e R s m args below meth c D G A H0 true n0 M_X12_next x 0 0 0 [(0, (22, a0))] [] (q)) (K)) (fun r z => k0 r z) (fun _ z => z) h1 h2) hr hk
end M_X12_next
theorem oX12_next {l : Launch} {D : va_G} {G : gG} {h : hH} {a0 : Int} {r : hH} (hr : fX12_next h a0 = some r) : Ctr l D G true yX12_next M_X12_next [(22, a0)] h (none, r) :=
  Ctr_of (by decide) rfl (fun z => by cases z) (nl rfl) (fun {p e R s m args below meth c A H0} => by
    exact oX12_next_b0 (K := fun z9 => z9 = r) (fun r9 z => by rw [z]) hr rfl)
/-! X12_bad -/
theorem dX12_bad_0 : decode cX12_bad 0 = .ok (.aload_n 0, 1) := by decide +kernel
theorem dX12_bad_1 : decode cX12_bad 1 = .ok (.iload_n 1, 1) := by decide +kernel
theorem dX12_bad_2 : decode cX12_bad 2 = .ok (.putfield 214, 3) := by decide +kernel
theorem dX12_bad_5 : decode cX12_bad 5 = .ok (.aload_n 0, 1) := by decide +kernel
theorem dX12_bad_6 : decode cX12_bad 6 = .ok (.aload_n 0, 1) := by decide +kernel
theorem dX12_bad_7 : decode cX12_bad 7 = .ok (.getfield 191, 3) := by decide +kernel
theorem dX12_bad_10 : decode cX12_bad 10 = .ok (.putfield 217, 3) := by decide +kernel
theorem dX12_bad_13 : decode cX12_bad 13 = .ok (.iconst 0, 1) := by decide +kernel
theorem dX12_bad_14 : decode cX12_bad 14 = .ok (.ireturn, 1) := by decide +kernel
abbrev M_X12_bad : mM := (cX12_bad, 2, RX12, some .boolean, false, 0, 0, 0, 0)
theorem gX12_bad : cI yX12_bad M_X12_bad 1 := ⟨(wsl_25 _ (List.mem_of_getElem? (i := 7) rfl)), (wsl_25 _ (List.mem_of_getElem? (i := 8) rfl)), (wsl_1 _ (List.mem_of_getElem? (i := 5) rfl)), (wsl_25 _ (List.mem_of_getElem? (i := 9) rfl)), by decide +kernel⟩
noncomputable def fX12_bad (h : hH) (a0 a1 : Int) : Option (Int × hH) :=
  (pput h a0 16 a1).bind fun h2 =>
  (pput h2 a0 17 (h2 a0 13)).bind fun h10 =>
  some (0, h10)
section M_X12_bad
variable {p : Program} {l : Launch} {e : Env} {R : Room} {s : State} {m : MethodId} {args : Array Value} {below : List Frame} {meth : Method} {c : Code} {D : va_G} {G : gG} {A : Nat → Prop} {H0 : Heap} {n0 : Int} {x : Option vV × hH} {h : hH}
set_option maxRecDepth 100000 in
set_option maxHeartbeats 4000000 in
theorem oX12_bad_b0 {a0 a1 : Int} {K : Int × hH → Prop} (k0 : ∀ r, K (r) → x = (some (2, r.1), r.2)) {r : Int × hH} (hr : fX12_bad h a0 a1 = some r) (hk : K r) : Wq p l e R s m args below meth c D G A H0 true n0 M_X12_bad x 0 0 0 [(0, (22, a0)), (1, (0, a1))] [] h := by
  unfold fX12_bad at hr
  refine r_aload_n dX12_bad_0 rfl 0 rfl (nl rfl) ?_
  refine r_iload_n dX12_bad_1 rfl 1 rfl (Or.inl rfl) ?_
  obtain ⟨h2, hg2, hr⟩ := bnd hr
  refine r_put' 12 16 (t := 0) (ref := "FollowingRefsModel") hg2 rfl tyX12 tyX12_ok nmX12 rfl (by decide) rfl (by decide) inlX12 (wsl_23 _ (List.mem_of_getElem? (i := 12) rfl)) rfl rfl (by decide +kernel) (by decide) rfl (Or.inl ⟨rfl, rfl⟩) dX12_bad_2 ?_
  refine r_aload_n dX12_bad_5 rfl 0 rfl (nl rfl) ?_
  refine r_aload_n dX12_bad_6 rfl 0 rfl (nl rfl) ?_
  refine r_get 12 13 (o := a0) (w := (0, h2 a0 13)) (T := TX12) (ref := "FollowingRefsModel") rfl (by decide) rfl (by decide) inlX12 (wsl_24 _ (List.mem_of_getElem? (i := 4) rfl)) rfl dX12_bad_7 rfl ?_
  obtain ⟨h10, hg10, hr⟩ := bnd hr
  refine r_put' 12 17 (t := 0) (ref := "FollowingRefsModel") hg10 rfl tyX12 tyX12_ok nmX12 rfl (by decide) rfl (by decide) inlX12 (wsl_23 _ (List.mem_of_getElem? (i := 15) rfl)) rfl rfl (by decide +kernel) (by decide) rfl (Or.inl ⟨rfl, rfl⟩) dX12_bad_10 ?_
  refine r_iconst dX12_bad_13 (by decide) ?_
  refine r_scast 0 (v := (0, 0)) (w := (2, 0)) rfl cz (fun _ => Or.inl rfl) (st' := [(2, 0)]) rfl ?_
  obtain rfl := Option.some.inj hr
  exact r_ret dX12_bad_14 rfl (Or.inr ⟨rfl, rfl⟩) (k0 _ hk) ⟨rfl, rfl⟩
end M_X12_bad
theorem oX12_bad {l : Launch} {D : va_G} {G : gG} {h : hH} {a0 a1 : Int} {r : Int × hH} (hr : fX12_bad h a0 a1 = some r) : Ctr l D G true yX12_bad M_X12_bad [(22, a0), (0, a1)] h (some (2, r.1), r.2) :=
  Ctr_of (by decide) rfl (fun z => by cases z) (nl rfl) (fun {p e R s m args below meth c A H0} => by
    exact oX12_bad_b0 (K := fun z9 => z9 = r) (fun r9 z => by rw [z]) hr rfl)
/-! X12_isWord -/
theorem dX12_isWord_0 : decode cX12_isWord 0 = .ok (.aload_n 0, 1) := by decide +kernel
theorem dX12_isWord_1 : decode cX12_isWord 1 = .ok (.getfield 197, 3) := by decide +kernel
theorem dX12_isWord_4 : decode cX12_isWord 4 = .ok (.iconst 1, 1) := by decide +kernel
theorem dX12_isWord_5 : decode cX12_isWord 5 = .ok (.if_icmp .ne 16, 3) := by decide +kernel
theorem dX12_isWord_8 : decode cX12_isWord 8 = .ok (.aload_n 0, 1) := by decide +kernel
theorem dX12_isWord_9 : decode cX12_isWord 9 = .ok (.getfield 210, 3) := by decide +kernel
theorem dX12_isWord_12 : decode cX12_isWord 12 = .ok (.lload_n 1, 1) := by decide +kernel
theorem dX12_isWord_13 : decode cX12_isWord 13 = .ok (.lcmp, 1) := by decide +kernel
theorem dX12_isWord_14 : decode cX12_isWord 14 = .ok (.ifCond .ne 7, 3) := by decide +kernel
theorem dX12_isWord_17 : decode cX12_isWord 17 = .ok (.iconst 1, 1) := by decide +kernel
theorem dX12_isWord_18 : decode cX12_isWord 18 = .ok (.goto 4, 3) := by decide +kernel
theorem dX12_isWord_21 : decode cX12_isWord 21 = .ok (.iconst 0, 1) := by decide +kernel
theorem dX12_isWord_22 : decode cX12_isWord 22 = .ok (.ireturn, 1) := by decide +kernel
abbrev M_X12_isWord : mM := (cX12_isWord, 3, RX12, some .boolean, false, 0, 0, 0, 0)
theorem gX12_isWord : cI yX12_isWord M_X12_isWord 1 := ⟨(wsl_24 _ (List.mem_of_getElem? (i := 23) rfl)), (wsl_25 _ (List.mem_of_getElem? (i := 0) rfl)), (wsl_1 _ (List.mem_of_getElem? (i := 5) rfl)), (wsl_25 _ (List.mem_of_getElem? (i := 1) rfl)), by decide +kernel⟩
noncomputable def fX12_isWord (h : hH) (a0 a1 : Int) : Option (Int) :=
  if h a0 12 = 1 then
    if lcmD (h a0 18) a1 = 0 then
      some 1
    else
      some 0
  else
    some 0
section M_X12_isWord
variable {p : Program} {l : Launch} {e : Env} {R : Room} {s : State} {m : MethodId} {args : Array Value} {below : List Frame} {meth : Method} {c : Code} {D : va_G} {G : gG} {A : Nat → Prop} {H0 : Heap} {n0 : Int} {x : Option vV × hH} {h : hH}
set_option maxRecDepth 100000 in
set_option maxHeartbeats 4000000 in
theorem oX12_isWord_b0 {a0 a1 : Int} {K : Int → Prop} (k0 : ∀ r, K (r) → x = (some (2, r), h)) {r : Int} (hr : fX12_isWord h a0 a1 = some r) (hk : K r) : Wq p l e R s m args below meth c D G A H0 true n0 M_X12_isWord x 0 0 0 [(0, (22, a0)), (1, (1, a1))] [] h := by
  unfold fX12_isWord at hr
  refine r_aload_n dX12_isWord_0 rfl 0 rfl (nl rfl) ?_
  refine r_get 12 12 (o := a0) (w := (0, h a0 12)) (T := TX12) (ref := "FollowingRefsModel") rfl (by decide) rfl (by decide) inlX12 (wsl_23 _ (List.mem_of_getElem? (i := 14) rfl)) rfl dX12_isWord_1 rfl ?_
  refine r_iconst dX12_isWord_4 (by decide) ?_
  refine r_icmp_ne dX12_isWord_5 (tgt := 21) (by decide) (fun hc => ?_) (fun hc => ?_)
  · have hr := ifn hr hc
    refine r_iconst dX12_isWord_21 (by decide) ?_
    refine r_scast 0 (v := (0, 0)) (w := (2, 0)) rfl cz (fun _ => Or.inl rfl) (st' := [(2, 0)]) rfl ?_
    obtain rfl := Option.some.inj hr
    exact r_ret dX12_isWord_22 rfl (Or.inr ⟨rfl, rfl⟩) (k0 _ hk) ⟨rfl, rfl⟩
  · have hr := ifp hr hc
    refine r_aload_n dX12_isWord_8 rfl 0 rfl (nl rfl) ?_
    refine r_get 12 18 (o := a0) (w := (1, h a0 18)) (T := TX12) (ref := "FollowingRefsModel") rfl (by decide) rfl (by decide) inlX12 (wsl_24 _ (List.mem_of_getElem? (i := 7) rfl)) rfl dX12_isWord_9 rfl ?_
    refine r_lload_n dX12_isWord_12 rfl 1 rfl ?_
    refine r_lcmp dX12_isWord_13 ?_
    refine r_if_ne dX12_isWord_14 (tgt := 21) (by decide) (fun hc => ?_) (fun hc => ?_)
    · have hr := ifn hr hc
      refine r_iconst dX12_isWord_21 (by decide) ?_
      refine r_scast 0 (v := (0, 0)) (w := (2, 0)) rfl cz (fun _ => Or.inl rfl) (st' := [(2, 0)]) rfl ?_
      obtain rfl := Option.some.inj hr
      exact r_ret dX12_isWord_22 rfl (Or.inr ⟨rfl, rfl⟩) (k0 _ hk) ⟨rfl, rfl⟩
    · have hr := ifp hr hc
      refine r_iconst dX12_isWord_17 (by decide) ?_
      refine r_goto dX12_isWord_18 (tgt := 22) (by decide) ?_
      refine r_scast 0 (v := (0, 1)) (w := (2, 1)) rfl cz (fun _ => Or.inr rfl) (st' := [(2, 1)]) rfl ?_
      obtain rfl := Option.some.inj hr
      exact r_ret dX12_isWord_22 rfl (Or.inr ⟨rfl, rfl⟩) (k0 _ hk) ⟨rfl, rfl⟩
end M_X12_isWord
theorem oX12_isWord {l : Launch} {D : va_G} {G : gG} {h : hH} {a0 a1 : Int} {r : Int} (hr : fX12_isWord h a0 a1 = some r) : Ctr l D G true yX12_isWord M_X12_isWord [(22, a0), (1, a1)] h (some (2, r), h) :=
  Ctr_of (by decide) rfl (fun z => by cases z) (nl rfl) (fun {p e R s m args below meth c A H0} => by
    exact oX12_isWord_b0 (K := fun z9 => z9 = r) (fun r9 z => by rw [z]) hr rfl)
/-! X12_isSign -/
theorem dX12_isSign_0 : decode cX12_isSign 0 = .ok (.aload_n 0, 1) := by decide +kernel
theorem dX12_isSign_1 : decode cX12_isSign 1 = .ok (.getfield 197, 3) := by decide +kernel
theorem dX12_isSign_4 : decode cX12_isSign 4 = .ok (.iconst 3, 1) := by decide +kernel
theorem dX12_isSign_5 : decode cX12_isSign 5 = .ok (.if_icmp .ne 15, 3) := by decide +kernel
theorem dX12_isSign_8 : decode cX12_isSign 8 = .ok (.aload_n 0, 1) := by decide +kernel
theorem dX12_isSign_9 : decode cX12_isSign 9 = .ok (.getfield 207, 3) := by decide +kernel
theorem dX12_isSign_12 : decode cX12_isSign 12 = .ok (.iload_n 1, 1) := by decide +kernel
theorem dX12_isSign_13 : decode cX12_isSign 13 = .ok (.if_icmp .ne 7, 3) := by decide +kernel
theorem dX12_isSign_16 : decode cX12_isSign 16 = .ok (.iconst 1, 1) := by decide +kernel
theorem dX12_isSign_17 : decode cX12_isSign 17 = .ok (.goto 4, 3) := by decide +kernel
theorem dX12_isSign_20 : decode cX12_isSign 20 = .ok (.iconst 0, 1) := by decide +kernel
theorem dX12_isSign_21 : decode cX12_isSign 21 = .ok (.ireturn, 1) := by decide +kernel
abbrev M_X12_isSign : mM := (cX12_isSign, 2, RX12, some .boolean, false, 0, 0, 0, 0)
theorem gX12_isSign : cI yX12_isSign M_X12_isSign 1 := ⟨(wsl_25 _ (List.mem_of_getElem? (i := 19) rfl)), (wsl_25 _ (List.mem_of_getElem? (i := 20) rfl)), (wsl_1 _ (List.mem_of_getElem? (i := 5) rfl)), (wsl_25 _ (List.mem_of_getElem? (i := 21) rfl)), by decide +kernel⟩
noncomputable def fX12_isSign (h : hH) (a0 a1 : Int) : Option (Int) :=
  if h a0 12 = 3 then
    if h a0 15 = a1 then
      some 1
    else
      some 0
  else
    some 0
section M_X12_isSign
variable {p : Program} {l : Launch} {e : Env} {R : Room} {s : State} {m : MethodId} {args : Array Value} {below : List Frame} {meth : Method} {c : Code} {D : va_G} {G : gG} {A : Nat → Prop} {H0 : Heap} {n0 : Int} {x : Option vV × hH} {h : hH}
set_option maxRecDepth 100000 in
set_option maxHeartbeats 4000000 in
theorem oX12_isSign_b0 {a0 a1 : Int} {K : Int → Prop} (k0 : ∀ r, K (r) → x = (some (2, r), h)) {r : Int} (hr : fX12_isSign h a0 a1 = some r) (hk : K r) : Wq p l e R s m args below meth c D G A H0 true n0 M_X12_isSign x 0 0 0 [(0, (22, a0)), (1, (0, a1))] [] h := by
  unfold fX12_isSign at hr
  refine r_aload_n dX12_isSign_0 rfl 0 rfl (nl rfl) ?_
  refine r_get 12 12 (o := a0) (w := (0, h a0 12)) (T := TX12) (ref := "FollowingRefsModel") rfl (by decide) rfl (by decide) inlX12 (wsl_23 _ (List.mem_of_getElem? (i := 14) rfl)) rfl dX12_isSign_1 rfl ?_
  refine r_iconst dX12_isSign_4 (by decide) ?_
  refine r_icmp_ne dX12_isSign_5 (tgt := 20) (by decide) (fun hc => ?_) (fun hc => ?_)
  · have hr := ifn hr hc
    refine r_iconst dX12_isSign_20 (by decide) ?_
    refine r_scast 0 (v := (0, 0)) (w := (2, 0)) rfl cz (fun _ => Or.inl rfl) (st' := [(2, 0)]) rfl ?_
    obtain rfl := Option.some.inj hr
    exact r_ret dX12_isSign_21 rfl (Or.inr ⟨rfl, rfl⟩) (k0 _ hk) ⟨rfl, rfl⟩
  · have hr := ifp hr hc
    refine r_aload_n dX12_isSign_8 rfl 0 rfl (nl rfl) ?_
    refine r_get 12 15 (o := a0) (w := (0, h a0 15)) (T := TX12) (ref := "FollowingRefsModel") rfl (by decide) rfl (by decide) inlX12 (wsl_24 _ (List.mem_of_getElem? (i := 6) rfl)) rfl dX12_isSign_9 rfl ?_
    refine r_iload_n dX12_isSign_12 rfl 1 rfl (Or.inl rfl) ?_
    refine r_icmp_ne dX12_isSign_13 (tgt := 20) (by decide) (fun hc => ?_) (fun hc => ?_)
    · have hr := ifn hr hc
      refine r_iconst dX12_isSign_20 (by decide) ?_
      refine r_scast 0 (v := (0, 0)) (w := (2, 0)) rfl cz (fun _ => Or.inl rfl) (st' := [(2, 0)]) rfl ?_
      obtain rfl := Option.some.inj hr
      exact r_ret dX12_isSign_21 rfl (Or.inr ⟨rfl, rfl⟩) (k0 _ hk) ⟨rfl, rfl⟩
    · have hr := ifp hr hc
      refine r_iconst dX12_isSign_16 (by decide) ?_
      refine r_goto dX12_isSign_17 (tgt := 21) (by decide) ?_
      refine r_scast 0 (v := (0, 1)) (w := (2, 1)) rfl cz (fun _ => Or.inr rfl) (st' := [(2, 1)]) rfl ?_
      obtain rfl := Option.some.inj hr
      exact r_ret dX12_isSign_21 rfl (Or.inr ⟨rfl, rfl⟩) (k0 _ hk) ⟨rfl, rfl⟩
end M_X12_isSign
theorem oX12_isSign {l : Launch} {D : va_G} {G : gG} {h : hH} {a0 a1 : Int} {r : Int} (hr : fX12_isSign h a0 a1 = some r) : Ctr l D G true yX12_isSign M_X12_isSign [(22, a0), (0, a1)] h (some (2, r), h) :=
  Ctr_of (by decide) rfl (fun z => by cases z) (nl rfl) (fun {p e R s m args below meth c A H0} => by
    exact oX12_isSign_b0 (K := fun z9 => z9 = r) (fun r9 z => by rw [z]) hr rfl)
/-! X12_sign -/
theorem dX12_sign_0 : decode cX12_sign 0 = .ok (.aload_n 0, 1) := by decide +kernel
theorem dX12_sign_1 : decode cX12_sign 1 = .ok (.iload_n 1, 1) := by decide +kernel
theorem dX12_sign_2 : decode cX12_sign 2 = .ok (.invokevirtual 220, 3) := by decide +kernel
theorem dX12_sign_5 : decode cX12_sign 5 = .ok (.ifCond .ne 9, 3) := by decide +kernel
theorem dX12_sign_8 : decode cX12_sign 8 = .ok (.aload_n 0, 1) := by decide +kernel
theorem dX12_sign_9 : decode cX12_sign 9 = .ok (.iconst 1, 1) := by decide +kernel
theorem dX12_sign_10 : decode cX12_sign 10 = .ok (.invokevirtual 223, 3) := by decide +kernel
theorem dX12_sign_13 : decode cX12_sign 13 = .ok (.ireturn, 1) := by decide +kernel
theorem dX12_sign_14 : decode cX12_sign 14 = .ok (.aload_n 0, 1) := by decide +kernel
theorem dX12_sign_15 : decode cX12_sign 15 = .ok (.invokevirtual 226, 3) := by decide +kernel
theorem dX12_sign_18 : decode cX12_sign 18 = .ok (.iconst 1, 1) := by decide +kernel
theorem dX12_sign_19 : decode cX12_sign 19 = .ok (.ireturn, 1) := by decide +kernel
abbrev M_X12_sign : mM := (cX12_sign, 2, RX12, some .boolean, false, 2, 43, 0, 0)
theorem gX12_sign : cI yX12_sign M_X12_sign 1 := ⟨(wsl_28 _ (List.mem_of_getElem? (i := 13) rfl)), (wsl_28 _ (List.mem_of_getElem? (i := 14) rfl)), (wsl_1 _ (List.mem_of_getElem? (i := 5) rfl)), (wsl_28 _ (List.mem_of_getElem? (i := 15) rfl)), by decide +kernel⟩
noncomputable def fX12_sign (h : hH) (a0 a1 : Int) : Option (Int × hH) :=
  (fX12_isSign h a0 a1).bind fun r2 =>
  if r2 = 0 then
    (fX12_bad h a0 1).bind fun q10 =>
    some (q10.1, q10.2)
  else
    (fX12_next h a0).bind fun h15 =>
    some (1, h15)
section M_X12_sign
variable {p : Program} {l : Launch} {e : Env} {R : Room} {s : State} {m : MethodId} {args : Array Value} {below : List Frame} {meth : Method} {c : Code} {D : va_G} {G : gG} {A : Nat → Prop} {H0 : Heap} {n0 : Int} {x : Option vV × hH} {h : hH}
set_option maxRecDepth 100000 in
set_option maxHeartbeats 4000000 in
theorem oX12_sign_b0 {a0 a1 : Int} {K : Int × hH → Prop} (k0 : ∀ r, K (r) → x = (some (2, r.1), r.2)) {r : Int × hH} (hr : fX12_sign h a0 a1 = some r) (hk : K r) : Wq p l e R s m args below meth c D G A H0 true n0 M_X12_sign x 0 0 0 [(0, (22, a0)), (1, (0, a1))] [] h := by
  unfold fX12_sign at hr
  refine r_aload_n dX12_sign_0 rfl 0 rfl (nl rfl) ?_
  refine r_iload_n dX12_sign_1 rfl 1 rfl (Or.inl rfl) ?_
  obtain ⟨r2, hg2, hr⟩ := bnd hr
  refine k_V (ci := 12) (o := a0) (T := TX12) (as := [(0, a1)]) (rest := []) (X := (some (2, r2), h)) (oX12_isSign hg2) gX12_isSign rfl (by decide) rfl (wsl_25 _ (List.mem_of_getElem? (i := 18) rfl)) rfl dX12_sign_2 rfl ?_
  refine r_scast 0 (v := (2, r2)) (w := (0, r2)) rfl zc hTz (st' := [(0, r2)]) rfl ?_
  refine r_if_ne dX12_sign_5 (tgt := 14) (by decide) (fun hc => ?_) (fun hc => ?_)
  · have hr := ifn hr hc
    refine r_aload_n dX12_sign_14 rfl 0 rfl (nl rfl) ?_
    obtain ⟨h15, hg15, hr⟩ := bnd hr
    refine k_V (ci := 12) (o := a0) (T := TX12) (as := []) (rest := []) (X := (none, h15)) (oX12_next hg15) gX12_next rfl (by decide) rfl (wsl_24 _ (List.mem_of_getElem? (i := 0) rfl)) rfl dX12_sign_15 rfl ?_
    refine r_iconst dX12_sign_18 (by decide) ?_
    refine r_scast 0 (v := (0, 1)) (w := (2, 1)) rfl cz (fun _ => Or.inr rfl) (st' := [(2, 1)]) rfl ?_
    obtain rfl := Option.some.inj hr
    exact r_ret dX12_sign_19 rfl (Or.inr ⟨rfl, rfl⟩) (k0 _ hk) ⟨rfl, rfl⟩
  · have hr := ifp hr hc
    refine r_aload_n dX12_sign_8 rfl 0 rfl (nl rfl) ?_
    refine r_iconst dX12_sign_9 (by decide) ?_
    obtain ⟨q10, hg10, hr⟩ := bnd hr
    refine k_V (ci := 12) (o := a0) (T := TX12) (as := [(0, 1)]) (rest := []) (X := (some (2, q10.1), q10.2)) (oX12_bad hg10) gX12_bad rfl (by decide) rfl (wsl_25 _ (List.mem_of_getElem? (i := 6) rfl)) rfl dX12_sign_10 rfl ?_
    obtain rfl := Option.some.inj hr
    exact r_ret dX12_sign_13 rfl (Or.inr ⟨rfl, rfl⟩) (k0 _ hk) ⟨rfl, rfl⟩
end M_X12_sign
theorem oX12_sign {l : Launch} {D : va_G} {G : gG} {h : hH} {a0 a1 : Int} {r : Int × hH} (hr : fX12_sign h a0 a1 = some r) : Ctr l D G true yX12_sign M_X12_sign [(22, a0), (0, a1)] h (some (2, r.1), r.2) :=
  Ctr_of (by decide) rfl (fun z => by cases z) (nl rfl) (fun {p e R s m args below meth c A H0} => by
    exact oX12_sign_b0 (K := fun z9 => z9 = r) (fun r9 z => by rw [z]) hr rfl)
/-! X12_isName -/
theorem dX12_isName_0 : decode cX12_isName 0 = .ok (.aload_n 0, 1) := by decide +kernel
theorem dX12_isName_1 : decode cX12_isName 1 = .ok (.getfield 197, 3) := by decide +kernel
theorem dX12_isName_4 : decode cX12_isName 4 = .ok (.iconst 1, 1) := by decide +kernel
theorem dX12_isName_5 : decode cX12_isName 5 = .ok (.if_icmp .ne 7, 3) := by decide +kernel
theorem dX12_isName_8 : decode cX12_isName 8 = .ok (.iconst 1, 1) := by decide +kernel
theorem dX12_isName_9 : decode cX12_isName 9 = .ok (.goto 4, 3) := by decide +kernel
theorem dX12_isName_12 : decode cX12_isName 12 = .ok (.iconst 0, 1) := by decide +kernel
theorem dX12_isName_13 : decode cX12_isName 13 = .ok (.istore_n 1, 1) := by decide +kernel
theorem dX12_isName_14 : decode cX12_isName 14 = .ok (.iconst 0, 1) := by decide +kernel
theorem dX12_isName_15 : decode cX12_isName 15 = .ok (.istore_n 2, 1) := by decide +kernel
theorem dX12_isName_16 : decode cX12_isName 16 = .ok (.iload_n 2, 1) := by decide +kernel
theorem dX12_isName_17 : decode cX12_isName 17 = .ok (.bipush 29, 2) := by decide +kernel
theorem dX12_isName_19 : decode cX12_isName 19 = .ok (.if_icmp .ge 33, 3) := by decide +kernel
theorem dX12_isName_22 : decode cX12_isName 22 = .ok (.iload_n 1, 1) := by decide +kernel
theorem dX12_isName_23 : decode cX12_isName 23 = .ok (.ifCond .eq 21, 3) := by decide +kernel
theorem dX12_isName_26 : decode cX12_isName 26 = .ok (.aload_n 0, 1) := by decide +kernel
theorem dX12_isName_27 : decode cX12_isName 27 = .ok (.getfield 210, 3) := by decide +kernel
theorem dX12_isName_30 : decode cX12_isName 30 = .ok (.aload_n 0, 1) := by decide +kernel
theorem dX12_isName_31 : decode cX12_isName 31 = .ok (.getfield 50, 3) := by decide +kernel
theorem dX12_isName_34 : decode cX12_isName 34 = .ok (.iload_n 2, 1) := by decide +kernel
theorem dX12_isName_35 : decode cX12_isName 35 = .ok (.laload, 1) := by decide +kernel
theorem dX12_isName_36 : decode cX12_isName 36 = .ok (.lcmp, 1) := by decide +kernel
theorem dX12_isName_37 : decode cX12_isName 37 = .ok (.ifCond .eq 7, 3) := by decide +kernel
theorem dX12_isName_40 : decode cX12_isName 40 = .ok (.iconst 1, 1) := by decide +kernel
theorem dX12_isName_41 : decode cX12_isName 41 = .ok (.goto 4, 3) := by decide +kernel
theorem dX12_isName_44 : decode cX12_isName 44 = .ok (.iconst 0, 1) := by decide +kernel
theorem dX12_isName_45 : decode cX12_isName 45 = .ok (.istore_n 1, 1) := by decide +kernel
theorem dX12_isName_46 : decode cX12_isName 46 = .ok (.iinc 2 1, 3) := by decide +kernel
theorem dX12_isName_49 : decode cX12_isName 49 = .ok (.goto (-33), 3) := by decide +kernel
theorem dX12_isName_52 : decode cX12_isName 52 = .ok (.iload_n 1, 1) := by decide +kernel
theorem dX12_isName_53 : decode cX12_isName 53 = .ok (.ireturn, 1) := by decide +kernel
abbrev M_X12_isName : mM := (cX12_isName, 3, RX12, some .boolean, false, 0, 0, 0, 0)
theorem gX12_isName : cI yX12_isName M_X12_isName 0 := ⟨(wsl_25 _ (List.mem_of_getElem? (i := 11) rfl)), (wsl_25 _ (List.mem_of_getElem? (i := 12) rfl)), (wsl_1 _ (List.mem_of_getElem? (i := 5) rfl)), (wsl_25 _ (List.mem_of_getElem? (i := 13) rfl)), by decide +kernel⟩
noncomputable def fX12_isName_s16 (h : hH) (a0 : Int) : Int × Int → Option ((Int × Int) ⊕ (Int)) := fun (l1, l2) =>
  if l2 < 29 then
    if l1 = 0 then
      some (.inl (0, w32 (l2 + 1)))
    else
      (aget h (h a0 11) l2).bind fun v35 =>
      if lcmD (h a0 18) v35 = 0 then
        some (.inl (0, w32 (l2 + 1)))
      else
        some (.inl (1, w32 (l2 + 1)))
  else
    some (.inr (l1))
noncomputable def fX12_isName_b13 (h : hH) (a0 s0 : Int) : Option (Int) :=
  lpO (fX12_isName_s16 h a0) (s0, 0)
noncomputable def fX12_isName (h : hH) (a0 : Int) : Option (Int) :=
  if h a0 12 = 1 then
    fX12_isName_b13 h a0 1
  else
    fX12_isName_b13 h a0 0
section M_X12_isName
variable {p : Program} {l : Launch} {e : Env} {R : Room} {s : State} {m : MethodId} {args : Array Value} {below : List Frame} {meth : Method} {c : Code} {D : va_G} {G : gG} {A : Nat → Prop} {H0 : Heap} {n0 : Int} {x : Option vV × hH} {h : hH}
set_option maxRecDepth 100000 in
set_option maxHeartbeats 4000000 in
theorem oX12_isName_s16 {a0 l1 l2 : Int} {K : (Int × Int) ⊕ (Int) → Prop} (k0 : ∀ r, K (.inr (r)) → x = (some (2, r), h)) (k1 : ∀ (l1 : Int) (l2 : Int), K (.inl (l1, l2)) → Wq p l e R s m args below meth c D G A H0 true n0 M_X12_isName x 0 0 16 [(0, (22, a0)), (1, (2, l1)), (2, (0, l2))] [] h) {r : (Int × Int) ⊕ (Int)} (hr : fX12_isName_s16 h a0 (l1, l2) = some r) (hk : K r) : Wq p l e R s m args below meth c D G A H0 true n0 M_X12_isName x 0 0 16 [(0, (22, a0)), (1, (2, l1)), (2, (0, l2))] [] h := by
  unfold fX12_isName_s16 at hr
  refine r_iload_n dX12_isName_16 rfl 2 rfl (Or.inl rfl) ?_
  refine r_bipush dX12_isName_17 (by decide) (by decide) ?_
  refine r_icmp_ge dX12_isName_19 (tgt := 52) (by decide) (fun hc => ?_) (fun hc => ?_)
  · have hr := ifn hr hc
    refine r_iload_n dX12_isName_52 rfl 1 rfl (Or.inr rfl) ?_
    obtain rfl := Option.some.inj hr
    exact r_ret dX12_isName_53 rfl (Or.inr ⟨rfl, rfl⟩) (k0 _ hk) ⟨rfl, rfl⟩
  · have hr := ifp hr hc
    refine r_iload_n dX12_isName_22 rfl 1 rfl (Or.inr rfl) ?_
    refine r_scast 0 (v := (2, l1)) (w := (0, l1)) rfl zc hTz (st' := [(0, l1)]) rfl ?_
    refine r_if_eq dX12_isName_23 (tgt := 44) (by decide) (fun hc => ?_) (fun hc => ?_)
    · have hr := ifp hr hc
      refine r_iconst dX12_isName_44 (by decide) ?_
      refine r_istore_n dX12_isName_45 rfl (Or.inl rfl) (by decide) (lv' := [(1, (0, 0)), (0, (22, a0)), (2, (0, l2))]) rfl ?_
      refine r_iinc (k := 2) (v := l2) dX12_isName_46 rfl (by decide) (lv' := [(2, (0, w32 (l2 + 1))), (1, (0, 0)), (0, (22, a0))]) rfl ?_
      refine r_goto dX12_isName_49 (tgt := 16) (by decide) ?_
      refine r_lcast 1 (v := (0, 0)) (w := (2, 0)) rfl cz (fun _ => Or.inl rfl) (lv' := [(2, (0, w32 (l2 + 1))), (1, (2, 0)), (0, (22, a0))]) rfl ?_
      refine r_sub [2, 1, 0] (lv' := [(0, (22, a0)), (1, (2, 0)), (2, (0, w32 (l2 + 1)))]) rfl ?_
      obtain rfl := Option.some.inj hr
      exact k1 _ _ hk
    · have hr := ifn hr hc
      refine r_aload_n dX12_isName_26 rfl 0 rfl (nl rfl) ?_
      refine r_get 12 18 (o := a0) (w := (1, h a0 18)) (T := TX12) (ref := "FollowingRefsModel") rfl (by decide) rfl (by decide) inlX12 (wsl_24 _ (List.mem_of_getElem? (i := 7) rfl)) rfl dX12_isName_27 rfl ?_
      refine r_aload_n dX12_isName_30 rfl 0 rfl (nl rfl) ?_
      refine r_get 12 11 (o := a0) (w := (51, h a0 11)) (T := TX12) (ref := "FollowingRefsModel") rfl (by decide) rfl (by decide) inlX12 (wsl_7 _ (List.mem_of_getElem? (i := 13) rfl)) rfl dX12_isName_31 rfl ?_
      refine r_iload_n dX12_isName_34 rfl 2 rfl (Or.inl rfl) ?_
      obtain ⟨v35, hg35, hr⟩ := bnd hr
      refine r_lald dX12_isName_35 hg35 ?_
      refine r_lcmp dX12_isName_36 ?_
      refine r_if_eq dX12_isName_37 (tgt := 44) (by decide) (fun hc => ?_) (fun hc => ?_)
      · have hr := ifp hr hc
        refine r_iconst dX12_isName_44 (by decide) ?_
        refine r_istore_n dX12_isName_45 rfl (Or.inl rfl) (by decide) (lv' := [(1, (0, 0)), (0, (22, a0)), (2, (0, l2))]) rfl ?_
        refine r_iinc (k := 2) (v := l2) dX12_isName_46 rfl (by decide) (lv' := [(2, (0, w32 (l2 + 1))), (1, (0, 0)), (0, (22, a0))]) rfl ?_
        refine r_goto dX12_isName_49 (tgt := 16) (by decide) ?_
        refine r_lcast 1 (v := (0, 0)) (w := (2, 0)) rfl cz (fun _ => Or.inl rfl) (lv' := [(2, (0, w32 (l2 + 1))), (1, (2, 0)), (0, (22, a0))]) rfl ?_
        refine r_sub [2, 1, 0] (lv' := [(0, (22, a0)), (1, (2, 0)), (2, (0, w32 (l2 + 1)))]) rfl ?_
        obtain rfl := Option.some.inj hr
        exact k1 _ _ hk
      · have hr := ifn hr hc
        refine r_iconst dX12_isName_40 (by decide) ?_
        refine r_goto dX12_isName_41 (tgt := 45) (by decide) ?_
        refine r_istore_n dX12_isName_45 rfl (Or.inl rfl) (by decide) (lv' := [(1, (0, 1)), (0, (22, a0)), (2, (0, l2))]) rfl ?_
        refine r_iinc (k := 2) (v := l2) dX12_isName_46 rfl (by decide) (lv' := [(2, (0, w32 (l2 + 1))), (1, (0, 1)), (0, (22, a0))]) rfl ?_
        refine r_goto dX12_isName_49 (tgt := 16) (by decide) ?_
        refine r_lcast 1 (v := (0, 1)) (w := (2, 1)) rfl cz (fun _ => Or.inr rfl) (lv' := [(2, (0, w32 (l2 + 1))), (1, (2, 1)), (0, (22, a0))]) rfl ?_
        refine r_sub [2, 1, 0] (lv' := [(0, (22, a0)), (1, (2, 1)), (2, (0, w32 (l2 + 1)))]) rfl ?_
        obtain rfl := Option.some.inj hr
        exact k1 _ _ hk
set_option maxRecDepth 100000 in
set_option maxHeartbeats 4000000 in
theorem oX12_isName_b13 {a0 s0 : Int} {K : Int → Prop} (k0 : ∀ r, K (r) → x = (some (2, r), h)) {r : Int} (hr : fX12_isName_b13 h a0 s0 = some r) (hk : K r) : Wq p l e R s m args below meth c D G A H0 true n0 M_X12_isName x 0 0 13 [(0, (22, a0))] [(2, s0)] h := by
  unfold fX12_isName_b13 at hr
  refine r_istore_n dX12_isName_13 rfl (Or.inr rfl) (by decide) (lv' := [(1, (2, s0)), (0, (22, a0))]) rfl ?_
  refine r_iconst dX12_isName_14 (by decide) ?_
  refine r_istore_n dX12_isName_15 rfl (Or.inl rfl) (by decide) (lv' := [(2, (0, 0)), (1, (2, s0)), (0, (22, a0))]) rfl ?_
  refine r_sub [2, 1, 0] (lv' := [(0, (22, a0)), (1, (2, s0)), (2, (0, 0))]) rfl ?_
  exact lp_ok (w := fun (q : Int × Int) => Wq p l e R s m args below meth c D G A H0 true n0 M_X12_isName x 0 0 16 [(0, (22, a0)), (1, (2, q.1)), (2, (0, q.2))] [] (h)) (K := K) (fun ⟨q0, q1⟩ r h1 h2 => oX12_isName_s16 (K := Sum.elim (fun (q : Int × Int) => Wq p l e R s m args below meth c D G A H0 true n0 M_X12_isName x 0 0 16 [(0, (22, a0)), (1, (2, q.1)), (2, (0, q.2))] [] (h)) (K)) (fun r z => k0 r z) (fun _ _ z => z) h1 h2) hr hk
set_option maxRecDepth 100000 in
set_option maxHeartbeats 4000000 in
theorem oX12_isName_b0 {a0 : Int} {K : Int → Prop} (k0 : ∀ r, K (r) → x = (some (2, r), h)) {r : Int} (hr : fX12_isName h a0 = some r) (hk : K r) : Wq p l e R s m args below meth c D G A H0 true n0 M_X12_isName x 0 0 0 [(0, (22, a0))] [] h := by
  unfold fX12_isName at hr
  refine r_aload_n dX12_isName_0 rfl 0 rfl (nl rfl) ?_
  refine r_get 12 12 (o := a0) (w := (0, h a0 12)) (T := TX12) (ref := "FollowingRefsModel") rfl (by decide) rfl (by decide) inlX12 (wsl_23 _ (List.mem_of_getElem? (i := 14) rfl)) rfl dX12_isName_1 rfl ?_
  refine r_iconst dX12_isName_4 (by decide) ?_
  refine r_icmp_ne dX12_isName_5 (tgt := 12) (by decide) (fun hc => ?_) (fun hc => ?_)
  · have hr := ifn hr hc
    refine r_iconst dX12_isName_12 (by decide) ?_
    refine r_scast 0 (v := (0, 0)) (w := (2, 0)) rfl cz (fun _ => Or.inl rfl) (st' := [(2, 0)]) rfl ?_
    exact oX12_isName_b13 (K := K) (fun r z => k0 r z) hr hk
  · have hr := ifp hr hc
    refine r_iconst dX12_isName_8 (by decide) ?_
    refine r_goto dX12_isName_9 (tgt := 13) (by decide) ?_
    refine r_scast 0 (v := (0, 1)) (w := (2, 1)) rfl cz (fun _ => Or.inr rfl) (st' := [(2, 1)]) rfl ?_
    exact oX12_isName_b13 (K := K) (fun r z => k0 r z) hr hk
end M_X12_isName
theorem oX12_isName {l : Launch} {D : va_G} {G : gG} {h : hH} {a0 : Int} {r : Int} (hr : fX12_isName h a0 = some r) : Ctr l D G true yX12_isName M_X12_isName [(22, a0)] h (some (2, r), h) :=
  Ctr_of (by decide) rfl (fun z => by cases z) (nl rfl) (fun {p e R s m args below meth c A H0} => by
    exact oX12_isName_b0 (K := fun z9 => z9 = r) (fun r9 z => by rw [z]) hr rfl)
/-! X12_takes -/
theorem dX12_takes_0 : decode cX12_takes 0 = .ok (.aload_n 0, 1) := by decide +kernel
theorem dX12_takes_1 : decode cX12_takes 1 = .ok (.getfield 197, 3) := by decide +kernel
theorem dX12_takes_4 : decode cX12_takes 4 = .ok (.iconst 2, 1) := by decide +kernel
theorem dX12_takes_5 : decode cX12_takes 5 = .ok (.if_icmp .eq 9, 3) := by decide +kernel
theorem dX12_takes_8 : decode cX12_takes 8 = .ok (.aload_n 0, 1) := by decide +kernel
theorem dX12_takes_9 : decode cX12_takes 9 = .ok (.iconst 1, 1) := by decide +kernel
theorem dX12_takes_10 : decode cX12_takes 10 = .ok (.invokevirtual 223, 3) := by decide +kernel
theorem dX12_takes_13 : decode cX12_takes 13 = .ok (.ireturn, 1) := by decide +kernel
theorem dX12_takes_14 : decode cX12_takes 14 = .ok (.aload_n 0, 1) := by decide +kernel
theorem dX12_takes_15 : decode cX12_takes 15 = .ok (.getfield 207, 3) := by decide +kernel
theorem dX12_takes_18 : decode cX12_takes 18 = .ok (.iload_n 1, 1) := by decide +kernel
theorem dX12_takes_19 : decode cX12_takes 19 = .ok (.iload_n 2, 1) := by decide +kernel
theorem dX12_takes_20 : decode cX12_takes 20 = .ok (.invokestatic 229, 3) := by decide +kernel
theorem dX12_takes_23 : decode cX12_takes 23 = .ok (.ifCond .ne 9, 3) := by decide +kernel
theorem dX12_takes_26 : decode cX12_takes 26 = .ok (.aload_n 0, 1) := by decide +kernel
theorem dX12_takes_27 : decode cX12_takes 27 = .ok (.iconst 2, 1) := by decide +kernel
theorem dX12_takes_28 : decode cX12_takes 28 = .ok (.invokevirtual 223, 3) := by decide +kernel
theorem dX12_takes_31 : decode cX12_takes 31 = .ok (.ireturn, 1) := by decide +kernel
theorem dX12_takes_32 : decode cX12_takes 32 = .ok (.aload_n 0, 1) := by decide +kernel
theorem dX12_takes_33 : decode cX12_takes 33 = .ok (.aload_n 0, 1) := by decide +kernel
theorem dX12_takes_34 : decode cX12_takes 34 = .ok (.getfield 207, 3) := by decide +kernel
theorem dX12_takes_37 : decode cX12_takes 37 = .ok (.putfield 233, 3) := by decide +kernel
theorem dX12_takes_40 : decode cX12_takes 40 = .ok (.aload_n 0, 1) := by decide +kernel
theorem dX12_takes_41 : decode cX12_takes 41 = .ok (.invokevirtual 226, 3) := by decide +kernel
theorem dX12_takes_44 : decode cX12_takes 44 = .ok (.iconst 1, 1) := by decide +kernel
theorem dX12_takes_45 : decode cX12_takes 45 = .ok (.ireturn, 1) := by decide +kernel
abbrev M_X12_takes : mM := (cX12_takes, 3, RX12, some .boolean, false, 2, 43, 0, 0)
theorem gX12_takes : cI yX12_takes M_X12_takes 2 := ⟨(wsl_27 _ (List.mem_of_getElem? (i := 22) rfl)), (wsl_27 _ (List.mem_of_getElem? (i := 23) rfl)), (wsl_1 _ (List.mem_of_getElem? (i := 5) rfl)), (wsl_28 _ (List.mem_of_getElem? (i := 0) rfl)), by decide +kernel⟩
noncomputable def fX12_takes (h : hH) (a0 a1 a2 : Int) : Option (Int × hH) :=
  if h a0 12 = 2 then
    (fX12_isIn h (h a0 15) a1 a2).bind fun r20 =>
    if r20 = 0 then
      (fX12_bad h a0 2).bind fun q28 =>
      some (q28.1, q28.2)
    else
      (pput h a0 19 (h a0 15)).bind fun h37 =>
      (fX12_next h37 a0).bind fun h41 =>
      some (1, h41)
  else
    (fX12_bad h a0 1).bind fun q10 =>
    some (q10.1, q10.2)
section M_X12_takes
variable {p : Program} {l : Launch} {e : Env} {R : Room} {s : State} {m : MethodId} {args : Array Value} {below : List Frame} {meth : Method} {c : Code} {D : va_G} {G : gG} {A : Nat → Prop} {H0 : Heap} {n0 : Int} {x : Option vV × hH} {h : hH}
set_option maxRecDepth 100000 in
set_option maxHeartbeats 4000000 in
theorem oX12_takes_b0 {a0 a1 a2 : Int} {K : Int × hH → Prop} (k0 : ∀ r, K (r) → x = (some (2, r.1), r.2)) {r : Int × hH} (hr : fX12_takes h a0 a1 a2 = some r) (hk : K r) : Wq p l e R s m args below meth c D G A H0 true n0 M_X12_takes x 0 0 0 [(0, (22, a0)), (1, (0, a1)), (2, (0, a2))] [] h := by
  unfold fX12_takes at hr
  refine r_aload_n dX12_takes_0 rfl 0 rfl (nl rfl) ?_
  refine r_get 12 12 (o := a0) (w := (0, h a0 12)) (T := TX12) (ref := "FollowingRefsModel") rfl (by decide) rfl (by decide) inlX12 (wsl_23 _ (List.mem_of_getElem? (i := 14) rfl)) rfl dX12_takes_1 rfl ?_
  refine r_iconst dX12_takes_4 (by decide) ?_
  refine r_icmp_eq dX12_takes_5 (tgt := 14) (by decide) (fun hc => ?_) (fun hc => ?_)
  · have hr := ifp hr hc
    refine r_aload_n dX12_takes_14 rfl 0 rfl (nl rfl) ?_
    refine r_get 12 15 (o := a0) (w := (0, h a0 15)) (T := TX12) (ref := "FollowingRefsModel") rfl (by decide) rfl (by decide) inlX12 (wsl_24 _ (List.mem_of_getElem? (i := 6) rfl)) rfl dX12_takes_15 rfl ?_
    refine r_iload_n dX12_takes_18 rfl 1 rfl (Or.inl rfl) ?_
    refine r_iload_n dX12_takes_19 rfl 2 rfl (Or.inl rfl) ?_
    obtain ⟨r20, hg20, hr⟩ := bnd hr
    refine k_S (as := [(0, h a0 15), (0, a1), (0, a2)]) (rest := []) (X := (some (2, r20), h)) (oX12_isIn hg20) gX12_isIn rfl (wsl_28 _ (List.mem_of_getElem? (i := 1) rfl)) rfl dX12_takes_20 rfl ?_
    refine r_scast 0 (v := (2, r20)) (w := (0, r20)) rfl zc hTz (st' := [(0, r20)]) rfl ?_
    refine r_if_ne dX12_takes_23 (tgt := 32) (by decide) (fun hc => ?_) (fun hc => ?_)
    · have hr := ifn hr hc
      refine r_aload_n dX12_takes_32 rfl 0 rfl (nl rfl) ?_
      refine r_aload_n dX12_takes_33 rfl 0 rfl (nl rfl) ?_
      refine r_get 12 15 (o := a0) (w := (0, h a0 15)) (T := TX12) (ref := "FollowingRefsModel") rfl (by decide) rfl (by decide) inlX12 (wsl_24 _ (List.mem_of_getElem? (i := 6) rfl)) rfl dX12_takes_34 rfl ?_
      obtain ⟨h37, hg37, hr⟩ := bnd hr
      refine r_put' 12 19 (t := 0) (ref := "FollowingRefsModel") hg37 rfl tyX12 tyX12_ok nmX12 rfl (by decide) rfl (by decide) inlX12 (wsl_26 _ (List.mem_of_getElem? (i := 2) rfl)) rfl rfl (by decide +kernel) (by decide) rfl (Or.inl ⟨rfl, rfl⟩) dX12_takes_37 ?_
      refine r_aload_n dX12_takes_40 rfl 0 rfl (nl rfl) ?_
      obtain ⟨h41, hg41, hr⟩ := bnd hr
      refine k_V (ci := 12) (o := a0) (T := TX12) (as := []) (rest := []) (X := (none, h41)) (oX12_next hg41) gX12_next rfl (by decide) rfl (wsl_24 _ (List.mem_of_getElem? (i := 0) rfl)) rfl dX12_takes_41 rfl ?_
      refine r_iconst dX12_takes_44 (by decide) ?_
      refine r_scast 0 (v := (0, 1)) (w := (2, 1)) rfl cz (fun _ => Or.inr rfl) (st' := [(2, 1)]) rfl ?_
      obtain rfl := Option.some.inj hr
      exact r_ret dX12_takes_45 rfl (Or.inr ⟨rfl, rfl⟩) (k0 _ hk) ⟨rfl, rfl⟩
    · have hr := ifp hr hc
      refine r_aload_n dX12_takes_26 rfl 0 rfl (nl rfl) ?_
      refine r_iconst dX12_takes_27 (by decide) ?_
      obtain ⟨q28, hg28, hr⟩ := bnd hr
      refine k_V (ci := 12) (o := a0) (T := TX12) (as := [(0, 2)]) (rest := []) (X := (some (2, q28.1), q28.2)) (oX12_bad hg28) gX12_bad rfl (by decide) rfl (wsl_25 _ (List.mem_of_getElem? (i := 6) rfl)) rfl dX12_takes_28 rfl ?_
      obtain rfl := Option.some.inj hr
      exact r_ret dX12_takes_31 rfl (Or.inr ⟨rfl, rfl⟩) (k0 _ hk) ⟨rfl, rfl⟩
  · have hr := ifn hr hc
    refine r_aload_n dX12_takes_8 rfl 0 rfl (nl rfl) ?_
    refine r_iconst dX12_takes_9 (by decide) ?_
    obtain ⟨q10, hg10, hr⟩ := bnd hr
    refine k_V (ci := 12) (o := a0) (T := TX12) (as := [(0, 1)]) (rest := []) (X := (some (2, q10.1), q10.2)) (oX12_bad hg10) gX12_bad rfl (by decide) rfl (wsl_25 _ (List.mem_of_getElem? (i := 6) rfl)) rfl dX12_takes_10 rfl ?_
    obtain rfl := Option.some.inj hr
    exact r_ret dX12_takes_13 rfl (Or.inr ⟨rfl, rfl⟩) (k0 _ hk) ⟨rfl, rfl⟩
end M_X12_takes
theorem oX12_takes {l : Launch} {D : va_G} {G : gG} {h : hH} {a0 a1 a2 : Int} {r : Int × hH} (hr : fX12_takes h a0 a1 a2 = some r) : Ctr l D G true yX12_takes M_X12_takes [(22, a0), (0, a1), (0, a2)] h (some (2, r.1), r.2) :=
  Ctr_of (by decide) rfl (fun z => by cases z) (nl rfl) (fun {p e R s m args below meth c A H0} => by
    exact oX12_takes_b0 (K := fun z9 => z9 = r) (fun r9 z => by rw [z]) hr rfl)
/-! X12_seek -/
theorem dX12_seek_0 : decode cX12_seek 0 = .ok (.iconst 0, 1) := by decide +kernel
theorem dX12_seek_1 : decode cX12_seek 1 = .ok (.istore_n 3, 1) := by decide +kernel
theorem dX12_seek_2 : decode cX12_seek 2 = .ok (.iload_n 3, 1) := by decide +kernel
theorem dX12_seek_3 : decode cX12_seek 3 = .ok (.iload_n 2, 1) := by decide +kernel
theorem dX12_seek_4 : decode cX12_seek 4 = .ok (.if_icmp .ge 27, 3) := by decide +kernel
theorem dX12_seek_7 : decode cX12_seek 7 = .ok (.aload_n 0, 1) := by decide +kernel
theorem dX12_seek_8 : decode cX12_seek 8 = .ok (.getfield 46, 3) := by decide +kernel
theorem dX12_seek_11 : decode cX12_seek 11 = .ok (.iload_n 1, 1) := by decide +kernel
theorem dX12_seek_12 : decode cX12_seek 12 = .ok (.iload_n 3, 1) := by decide +kernel
theorem dX12_seek_13 : decode cX12_seek 13 = .ok (.iadd, 1) := by decide +kernel
theorem dX12_seek_14 : decode cX12_seek 14 = .ok (.laload, 1) := by decide +kernel
theorem dX12_seek_15 : decode cX12_seek 15 = .ok (.aload_n 0, 1) := by decide +kernel
theorem dX12_seek_16 : decode cX12_seek 16 = .ok (.getfield 210, 3) := by decide +kernel
theorem dX12_seek_19 : decode cX12_seek 19 = .ok (.lcmp, 1) := by decide +kernel
theorem dX12_seek_20 : decode cX12_seek 20 = .ok (.ifCond .ne 5, 3) := by decide +kernel
theorem dX12_seek_23 : decode cX12_seek 23 = .ok (.iload_n 3, 1) := by decide +kernel
theorem dX12_seek_24 : decode cX12_seek 24 = .ok (.ireturn, 1) := by decide +kernel
theorem dX12_seek_25 : decode cX12_seek 25 = .ok (.iinc 3 1, 3) := by decide +kernel
theorem dX12_seek_28 : decode cX12_seek 28 = .ok (.goto (-26), 3) := by decide +kernel
theorem dX12_seek_31 : decode cX12_seek 31 = .ok (.iconst (-1), 1) := by decide +kernel
theorem dX12_seek_32 : decode cX12_seek 32 = .ok (.ireturn, 1) := by decide +kernel
abbrev M_X12_seek : mM := (cX12_seek, 4, RX12, some .int, false, 0, 0, 0, 0)
theorem gX12_seek : cI yX12_seek M_X12_seek 2 := ⟨(wsl_25 _ (List.mem_of_getElem? (i := 15) rfl)), (wsl_25 _ (List.mem_of_getElem? (i := 16) rfl)), (wsl_1 _ (List.mem_of_getElem? (i := 5) rfl)), (wsl_25 _ (List.mem_of_getElem? (i := 17) rfl)), by decide +kernel⟩
noncomputable def fX12_seek_s2 (h : hH) (a0 a1 a2 : Int) : Int → Option ((Int) ⊕ (Int)) := fun l3 =>
  if l3 < a2 then
    (aget h (h a0 10) (w32 (a1 + l3))).bind fun v14 =>
    if lcmD v14 (h a0 18) = 0 then
      some (.inr (l3))
    else
      some (.inl (w32 (l3 + 1)))
  else
    some (.inr (-1))
noncomputable def fX12_seek (h : hH) (a0 a1 a2 : Int) : Option (Int) :=
  lpO (fX12_seek_s2 h a0 a1 a2) 0
section M_X12_seek
variable {p : Program} {l : Launch} {e : Env} {R : Room} {s : State} {m : MethodId} {args : Array Value} {below : List Frame} {meth : Method} {c : Code} {D : va_G} {G : gG} {A : Nat → Prop} {H0 : Heap} {n0 : Int} {x : Option vV × hH} {h : hH}
set_option maxRecDepth 100000 in
set_option maxHeartbeats 4000000 in
theorem oX12_seek_s2 {a0 a1 a2 l3 : Int} {K : (Int) ⊕ (Int) → Prop} (k0 : ∀ r, K (.inr (r)) → x = (some (0, r), h)) (k1 : ∀ (l3 : Int), K (.inl l3) → Wq p l e R s m args below meth c D G A H0 true n0 M_X12_seek x 0 0 2 [(0, (22, a0)), (1, (0, a1)), (2, (0, a2)), (3, (0, l3))] [] h) {r : (Int) ⊕ (Int)} (hr : fX12_seek_s2 h a0 a1 a2 l3 = some r) (hk : K r) : Wq p l e R s m args below meth c D G A H0 true n0 M_X12_seek x 0 0 2 [(0, (22, a0)), (1, (0, a1)), (2, (0, a2)), (3, (0, l3))] [] h := by
  unfold fX12_seek_s2 at hr
  refine r_iload_n dX12_seek_2 rfl 3 rfl (Or.inl rfl) ?_
  refine r_iload_n dX12_seek_3 rfl 2 rfl (Or.inl rfl) ?_
  refine r_icmp_ge dX12_seek_4 (tgt := 31) (by decide) (fun hc => ?_) (fun hc => ?_)
  · have hr := ifn hr hc
    refine r_iconst dX12_seek_31 (by decide) ?_
    obtain rfl := Option.some.inj hr
    exact r_ret dX12_seek_32 rfl (Or.inl ⟨rfl, rfl⟩) (k0 _ hk) ⟨rfl, rfl⟩
  · have hr := ifp hr hc
    refine r_aload_n dX12_seek_7 rfl 0 rfl (nl rfl) ?_
    refine r_get 12 10 (o := a0) (w := (51, h a0 10)) (T := TX12) (ref := "FollowingRefsModel") rfl (by decide) rfl (by decide) inlX12 (wsl_7 _ (List.mem_of_getElem? (i := 12) rfl)) rfl dX12_seek_8 rfl ?_
    refine r_iload_n dX12_seek_11 rfl 1 rfl (Or.inl rfl) ?_
    refine r_iload_n dX12_seek_12 rfl 3 rfl (Or.inl rfl) ?_
    refine r_iadd dX12_seek_13 ?_
    obtain ⟨v14, hg14, hr⟩ := bnd hr
    refine r_lald dX12_seek_14 hg14 ?_
    refine r_aload_n dX12_seek_15 rfl 0 rfl (nl rfl) ?_
    refine r_get 12 18 (o := a0) (w := (1, h a0 18)) (T := TX12) (ref := "FollowingRefsModel") rfl (by decide) rfl (by decide) inlX12 (wsl_24 _ (List.mem_of_getElem? (i := 7) rfl)) rfl dX12_seek_16 rfl ?_
    refine r_lcmp dX12_seek_19 ?_
    refine r_if_ne dX12_seek_20 (tgt := 25) (by decide) (fun hc => ?_) (fun hc => ?_)
    · have hr := ifn hr hc
      refine r_iinc (k := 3) (v := l3) dX12_seek_25 rfl (by decide) (lv' := [(3, (0, w32 (l3 + 1))), (0, (22, a0)), (1, (0, a1)), (2, (0, a2))]) rfl ?_
      refine r_goto dX12_seek_28 (tgt := 2) (by decide) ?_
      refine r_sub [1, 2, 3, 0] (lv' := [(0, (22, a0)), (1, (0, a1)), (2, (0, a2)), (3, (0, w32 (l3 + 1)))]) rfl ?_
      obtain rfl := Option.some.inj hr
      exact k1 _ hk
    · have hr := ifp hr hc
      refine r_iload_n dX12_seek_23 rfl 3 rfl (Or.inl rfl) ?_
      obtain rfl := Option.some.inj hr
      exact r_ret dX12_seek_24 rfl (Or.inl ⟨rfl, rfl⟩) (k0 _ hk) ⟨rfl, rfl⟩
set_option maxRecDepth 100000 in
set_option maxHeartbeats 4000000 in
theorem oX12_seek_b0 {a0 a1 a2 : Int} {K : Int → Prop} (k0 : ∀ r, K (r) → x = (some (0, r), h)) {r : Int} (hr : fX12_seek h a0 a1 a2 = some r) (hk : K r) : Wq p l e R s m args below meth c D G A H0 true n0 M_X12_seek x 0 0 0 [(0, (22, a0)), (1, (0, a1)), (2, (0, a2))] [] h := by
  unfold fX12_seek at hr
  refine r_iconst dX12_seek_0 (by decide) ?_
  refine r_istore_n dX12_seek_1 rfl (Or.inl rfl) (by decide) (lv' := [(3, (0, 0)), (0, (22, a0)), (1, (0, a1)), (2, (0, a2))]) rfl ?_
  refine r_sub [1, 2, 3, 0] (lv' := [(0, (22, a0)), (1, (0, a1)), (2, (0, a2)), (3, (0, 0))]) rfl ?_
  exact lp_ok (w := fun (q : Int) => Wq p l e R s m args below meth c D G A H0 true n0 M_X12_seek x 0 0 2 [(0, (22, a0)), (1, (0, a1)), (2, (0, a2)), (3, (0, q))] [] (h)) (K := K) (fun q r h1 h2 => oX12_seek_s2 (K := Sum.elim (fun (q : Int) => Wq p l e R s m args below meth c D G A H0 true n0 M_X12_seek x 0 0 2 [(0, (22, a0)), (1, (0, a1)), (2, (0, a2)), (3, (0, q))] [] (h)) (K)) (fun r z => k0 r z) (fun _ z => z) h1 h2) hr hk
end M_X12_seek
theorem oX12_seek {l : Launch} {D : va_G} {G : gG} {h : hH} {a0 a1 a2 : Int} {r : Int} (hr : fX12_seek h a0 a1 a2 = some r) : Ctr l D G true yX12_seek M_X12_seek [(22, a0), (0, a1), (0, a2)] h (some (0, r), h) :=
  Ctr_of (by decide) rfl (fun z => by cases z) (nl rfl) (fun {p e R s m args below meth c A H0} => by
    exact oX12_seek_b0 (K := fun z9 => z9 = r) (fun r9 z => by rw [z]) hr rfl)
/-! X12_looksAt -/
theorem dX12_looksAt_0 : decode cX12_looksAt 0 = .ok (.aload_n 0, 1) := by decide +kernel
theorem dX12_looksAt_1 : decode cX12_looksAt 1 = .ok (.invokevirtual 236, 3) := by decide +kernel
theorem dX12_looksAt_4 : decode cX12_looksAt 4 = .ok (.ifCond .ne 9, 3) := by decide +kernel
theorem dX12_looksAt_7 : decode cX12_looksAt 7 = .ok (.aload_n 0, 1) := by decide +kernel
theorem dX12_looksAt_8 : decode cX12_looksAt 8 = .ok (.iconst 1, 1) := by decide +kernel
theorem dX12_looksAt_9 : decode cX12_looksAt 9 = .ok (.invokevirtual 223, 3) := by decide +kernel
theorem dX12_looksAt_12 : decode cX12_looksAt 12 = .ok (.ireturn, 1) := by decide +kernel
theorem dX12_looksAt_13 : decode cX12_looksAt 13 = .ok (.aload_n 0, 1) := by decide +kernel
theorem dX12_looksAt_14 : decode cX12_looksAt 14 = .ok (.aload_n 0, 1) := by decide +kernel
theorem dX12_looksAt_15 : decode cX12_looksAt 15 = .ok (.iload_n 1, 1) := by decide +kernel
theorem dX12_looksAt_16 : decode cX12_looksAt 16 = .ok (.iload_n 2, 1) := by decide +kernel
theorem dX12_looksAt_17 : decode cX12_looksAt 17 = .ok (.invokevirtual 240, 3) := by decide +kernel
theorem dX12_looksAt_20 : decode cX12_looksAt 20 = .ok (.putfield 233, 3) := by decide +kernel
theorem dX12_looksAt_23 : decode cX12_looksAt 23 = .ok (.aload_n 0, 1) := by decide +kernel
theorem dX12_looksAt_24 : decode cX12_looksAt 24 = .ok (.getfield 233, 3) := by decide +kernel
theorem dX12_looksAt_27 : decode cX12_looksAt 27 = .ok (.ifCond .ge 11, 3) := by decide +kernel
theorem dX12_looksAt_30 : decode cX12_looksAt 30 = .ok (.aload_n 0, 1) := by decide +kernel
theorem dX12_looksAt_31 : decode cX12_looksAt 31 = .ok (.iconst 3, 1) := by decide +kernel
theorem dX12_looksAt_32 : decode cX12_looksAt 32 = .ok (.invokevirtual 223, 3) := by decide +kernel
theorem dX12_looksAt_35 : decode cX12_looksAt 35 = .ok (.ifCond .eq 7, 3) := by decide +kernel
theorem dX12_looksAt_38 : decode cX12_looksAt 38 = .ok (.iconst 1, 1) := by decide +kernel
theorem dX12_looksAt_39 : decode cX12_looksAt 39 = .ok (.goto 4, 3) := by decide +kernel
theorem dX12_looksAt_42 : decode cX12_looksAt 42 = .ok (.iconst 0, 1) := by decide +kernel
theorem dX12_looksAt_43 : decode cX12_looksAt 43 = .ok (.ireturn, 1) := by decide +kernel
abbrev M_X12_looksAt : mM := (cX12_looksAt, 3, RX12, some .boolean, false, 1, 23, 0, 0)
theorem gX12_looksAt : cI yX12_looksAt M_X12_looksAt 2 := ⟨(wsl_26 _ (List.mem_of_getElem? (i := 14) rfl)), (wsl_26 _ (List.mem_of_getElem? (i := 15) rfl)), (wsl_1 _ (List.mem_of_getElem? (i := 5) rfl)), (wsl_26 _ (List.mem_of_getElem? (i := 16) rfl)), by decide +kernel⟩
noncomputable def fX12_looksAt_b38 (h : hH) : Option (Int × hH) :=
  some (1, h)
noncomputable def fX12_looksAt (h : hH) (a0 a1 a2 : Int) : Option (Int × hH) :=
  (fX12_isName h a0).bind fun r1 =>
  if r1 = 0 then
    (fX12_bad h a0 1).bind fun q9 =>
    some (q9.1, q9.2)
  else
    (fX12_seek h a0 a1 a2).bind fun r17 =>
    (pput h a0 19 r17).bind fun h20 =>
    if h20 a0 19 < 0 then
      (fX12_bad h20 a0 3).bind fun q32 =>
      if q32.1 = 0 then
        some (0, q32.2)
      else
        fX12_looksAt_b38 q32.2
    else
      fX12_looksAt_b38 h20
section M_X12_looksAt
variable {p : Program} {l : Launch} {e : Env} {R : Room} {s : State} {m : MethodId} {args : Array Value} {below : List Frame} {meth : Method} {c : Code} {D : va_G} {G : gG} {A : Nat → Prop} {H0 : Heap} {n0 : Int} {x : Option vV × hH} {h : hH}
set_option maxRecDepth 100000 in
set_option maxHeartbeats 4000000 in
theorem oX12_looksAt_b38 {K : Int × hH → Prop} (k0 : ∀ r, K (r) → x = (some (2, r.1), r.2)) {r : Int × hH} (hr : fX12_looksAt_b38 h  = some r) (hk : K r) : Wq p l e R s m args below meth c D G A H0 true n0 M_X12_looksAt x 0 0 38 [] [] h := by
  unfold fX12_looksAt_b38 at hr
  refine r_iconst dX12_looksAt_38 (by decide) ?_
  refine r_goto dX12_looksAt_39 (tgt := 43) (by decide) ?_
  refine r_scast 0 (v := (0, 1)) (w := (2, 1)) rfl cz (fun _ => Or.inr rfl) (st' := [(2, 1)]) rfl ?_
  obtain rfl := Option.some.inj hr
  exact r_ret dX12_looksAt_43 rfl (Or.inr ⟨rfl, rfl⟩) (k0 _ hk) ⟨rfl, rfl⟩
set_option maxRecDepth 100000 in
set_option maxHeartbeats 4000000 in
theorem oX12_looksAt_b0 {a0 a1 a2 : Int} {K : Int × hH → Prop} (k0 : ∀ r, K (r) → x = (some (2, r.1), r.2)) {r : Int × hH} (hr : fX12_looksAt h a0 a1 a2 = some r) (hk : K r) : Wq p l e R s m args below meth c D G A H0 true n0 M_X12_looksAt x 0 0 0 [(0, (22, a0)), (1, (0, a1)), (2, (0, a2))] [] h := by
  unfold fX12_looksAt at hr
  refine r_aload_n dX12_looksAt_0 rfl 0 rfl (nl rfl) ?_
  obtain ⟨r1, hg1, hr⟩ := bnd hr
  refine k_V (ci := 12) (o := a0) (T := TX12) (as := []) (rest := []) (X := (some (2, r1), h)) (oX12_isName hg1) gX12_isName rfl (by decide) rfl (wsl_25 _ (List.mem_of_getElem? (i := 10) rfl)) rfl dX12_looksAt_1 rfl ?_
  refine r_scast 0 (v := (2, r1)) (w := (0, r1)) rfl zc hTz (st' := [(0, r1)]) rfl ?_
  refine r_if_ne dX12_looksAt_4 (tgt := 13) (by decide) (fun hc => ?_) (fun hc => ?_)
  · have hr := ifn hr hc
    refine r_aload_n dX12_looksAt_13 rfl 0 rfl (nl rfl) ?_
    refine r_aload_n dX12_looksAt_14 rfl 0 rfl (nl rfl) ?_
    refine r_iload_n dX12_looksAt_15 rfl 1 rfl (Or.inl rfl) ?_
    refine r_iload_n dX12_looksAt_16 rfl 2 rfl (Or.inl rfl) ?_
    obtain ⟨r17, hg17, hr⟩ := bnd hr
    refine k_V (ci := 12) (o := a0) (T := TX12) (as := [(0, a1), (0, a2)]) (rest := [(22, a0)]) (X := (some (0, r17), h)) (oX12_seek hg17) gX12_seek rfl (by decide) rfl (wsl_25 _ (List.mem_of_getElem? (i := 14) rfl)) rfl dX12_looksAt_17 rfl ?_
    obtain ⟨h20, hg20, hr⟩ := bnd hr
    refine r_put' 12 19 (t := 0) (ref := "FollowingRefsModel") hg20 rfl tyX12 tyX12_ok nmX12 rfl (by decide) rfl (by decide) inlX12 (wsl_26 _ (List.mem_of_getElem? (i := 2) rfl)) rfl rfl (by decide +kernel) (by decide) rfl (Or.inl ⟨rfl, rfl⟩) dX12_looksAt_20 ?_
    refine r_aload_n dX12_looksAt_23 rfl 0 rfl (nl rfl) ?_
    refine r_get 12 19 (o := a0) (w := (0, h20 a0 19)) (T := TX12) (ref := "FollowingRefsModel") rfl (by decide) rfl (by decide) inlX12 (wsl_26 _ (List.mem_of_getElem? (i := 2) rfl)) rfl dX12_looksAt_24 rfl ?_
    refine r_if_ge dX12_looksAt_27 (tgt := 38) (by decide) (fun hc => ?_) (fun hc => ?_)
    · have hr := ifn hr hc
      refine r_sub [] (lv' := []) rfl ?_
      exact oX12_looksAt_b38 (K := K) (fun r z => k0 r z) hr hk
    · have hr := ifp hr hc
      refine r_aload_n dX12_looksAt_30 rfl 0 rfl (nl rfl) ?_
      refine r_iconst dX12_looksAt_31 (by decide) ?_
      obtain ⟨q32, hg32, hr⟩ := bnd hr
      refine k_V (ci := 12) (o := a0) (T := TX12) (as := [(0, 3)]) (rest := []) (X := (some (2, q32.1), q32.2)) (oX12_bad hg32) gX12_bad rfl (by decide) rfl (wsl_25 _ (List.mem_of_getElem? (i := 6) rfl)) rfl dX12_looksAt_32 rfl ?_
      refine r_scast 0 (v := (2, q32.1)) (w := (0, q32.1)) rfl zc hTz (st' := [(0, q32.1)]) rfl ?_
      refine r_if_eq dX12_looksAt_35 (tgt := 42) (by decide) (fun hc => ?_) (fun hc => ?_)
      · have hr := ifp hr hc
        refine r_iconst dX12_looksAt_42 (by decide) ?_
        refine r_scast 0 (v := (0, 0)) (w := (2, 0)) rfl cz (fun _ => Or.inl rfl) (st' := [(2, 0)]) rfl ?_
        obtain rfl := Option.some.inj hr
        exact r_ret dX12_looksAt_43 rfl (Or.inr ⟨rfl, rfl⟩) (k0 _ hk) ⟨rfl, rfl⟩
      · have hr := ifn hr hc
        refine r_sub [] (lv' := []) rfl ?_
        exact oX12_looksAt_b38 (K := K) (fun r z => k0 r z) hr hk
  · have hr := ifp hr hc
    refine r_aload_n dX12_looksAt_7 rfl 0 rfl (nl rfl) ?_
    refine r_iconst dX12_looksAt_8 (by decide) ?_
    obtain ⟨q9, hg9, hr⟩ := bnd hr
    refine k_V (ci := 12) (o := a0) (T := TX12) (as := [(0, 1)]) (rest := []) (X := (some (2, q9.1), q9.2)) (oX12_bad hg9) gX12_bad rfl (by decide) rfl (wsl_25 _ (List.mem_of_getElem? (i := 6) rfl)) rfl dX12_looksAt_9 rfl ?_
    obtain rfl := Option.some.inj hr
    exact r_ret dX12_looksAt_12 rfl (Or.inr ⟨rfl, rfl⟩) (k0 _ hk) ⟨rfl, rfl⟩
end M_X12_looksAt
theorem oX12_looksAt {l : Launch} {D : va_G} {G : gG} {h : hH} {a0 a1 a2 : Int} {r : Int × hH} (hr : fX12_looksAt h a0 a1 a2 = some r) : Ctr l D G true yX12_looksAt M_X12_looksAt [(22, a0), (0, a1), (0, a2)] h (some (2, r.1), r.2) :=
  Ctr_of (by decide) rfl (fun z => by cases z) (nl rfl) (fun {p e R s m args below meth c A H0} => by
    exact oX12_looksAt_b0 (K := fun z9 => z9 = r) (fun r9 z => by rw [z]) hr rfl)
/-! X12_takesName -/
theorem dX12_takesName_0 : decode cX12_takesName 0 = .ok (.aload_n 0, 1) := by decide +kernel
theorem dX12_takesName_1 : decode cX12_takesName 1 = .ok (.iload_n 1, 1) := by decide +kernel
theorem dX12_takesName_2 : decode cX12_takesName 2 = .ok (.iload_n 2, 1) := by decide +kernel
theorem dX12_takesName_3 : decode cX12_takesName 3 = .ok (.invokevirtual 244, 3) := by decide +kernel
theorem dX12_takesName_6 : decode cX12_takesName 6 = .ok (.ifCond .ne 5, 3) := by decide +kernel
theorem dX12_takesName_9 : decode cX12_takesName 9 = .ok (.iconst 0, 1) := by decide +kernel
theorem dX12_takesName_10 : decode cX12_takesName 10 = .ok (.ireturn, 1) := by decide +kernel
theorem dX12_takesName_11 : decode cX12_takesName 11 = .ok (.aload_n 0, 1) := by decide +kernel
theorem dX12_takesName_12 : decode cX12_takesName 12 = .ok (.invokevirtual 226, 3) := by decide +kernel
theorem dX12_takesName_15 : decode cX12_takesName 15 = .ok (.iconst 1, 1) := by decide +kernel
theorem dX12_takesName_16 : decode cX12_takesName 16 = .ok (.ireturn, 1) := by decide +kernel
abbrev M_X12_takesName : mM := (cX12_takesName, 3, RX12, some .boolean, false, 2, 45, 0, 0)
theorem gX12_takesName : cI yX12_takesName M_X12_takesName 2 := ⟨(wsl_26 _ (List.mem_of_getElem? (i := 10) rfl)), (wsl_26 _ (List.mem_of_getElem? (i := 11) rfl)), (wsl_1 _ (List.mem_of_getElem? (i := 5) rfl)), (wsl_26 _ (List.mem_of_getElem? (i := 12) rfl)), by decide +kernel⟩
noncomputable def fX12_takesName (h : hH) (a0 a1 a2 : Int) : Option (Int × hH) :=
  (fX12_looksAt h a0 a1 a2).bind fun q3 =>
  if q3.1 = 0 then
    some (0, q3.2)
  else
    (fX12_next q3.2 a0).bind fun h12 =>
    some (1, h12)
section M_X12_takesName
variable {p : Program} {l : Launch} {e : Env} {R : Room} {s : State} {m : MethodId} {args : Array Value} {below : List Frame} {meth : Method} {c : Code} {D : va_G} {G : gG} {A : Nat → Prop} {H0 : Heap} {n0 : Int} {x : Option vV × hH} {h : hH}
set_option maxRecDepth 100000 in
set_option maxHeartbeats 4000000 in
theorem oX12_takesName_b0 {a0 a1 a2 : Int} {K : Int × hH → Prop} (k0 : ∀ r, K (r) → x = (some (2, r.1), r.2)) {r : Int × hH} (hr : fX12_takesName h a0 a1 a2 = some r) (hk : K r) : Wq p l e R s m args below meth c D G A H0 true n0 M_X12_takesName x 0 0 0 [(0, (22, a0)), (1, (0, a1)), (2, (0, a2))] [] h := by
  unfold fX12_takesName at hr
  refine r_aload_n dX12_takesName_0 rfl 0 rfl (nl rfl) ?_
  refine r_iload_n dX12_takesName_1 rfl 1 rfl (Or.inl rfl) ?_
  refine r_iload_n dX12_takesName_2 rfl 2 rfl (Or.inl rfl) ?_
  obtain ⟨q3, hg3, hr⟩ := bnd hr
  refine k_V (ci := 12) (o := a0) (T := TX12) (as := [(0, a1), (0, a2)]) (rest := []) (X := (some (2, q3.1), q3.2)) (oX12_looksAt hg3) gX12_looksAt rfl (by decide) rfl (wsl_26 _ (List.mem_of_getElem? (i := 13) rfl)) rfl dX12_takesName_3 rfl ?_
  refine r_scast 0 (v := (2, q3.1)) (w := (0, q3.1)) rfl zc hTz (st' := [(0, q3.1)]) rfl ?_
  refine r_if_ne dX12_takesName_6 (tgt := 11) (by decide) (fun hc => ?_) (fun hc => ?_)
  · have hr := ifn hr hc
    refine r_aload_n dX12_takesName_11 rfl 0 rfl (nl rfl) ?_
    obtain ⟨h12, hg12, hr⟩ := bnd hr
    refine k_V (ci := 12) (o := a0) (T := TX12) (as := []) (rest := []) (X := (none, h12)) (oX12_next hg12) gX12_next rfl (by decide) rfl (wsl_24 _ (List.mem_of_getElem? (i := 0) rfl)) rfl dX12_takesName_12 rfl ?_
    refine r_iconst dX12_takesName_15 (by decide) ?_
    refine r_scast 0 (v := (0, 1)) (w := (2, 1)) rfl cz (fun _ => Or.inr rfl) (st' := [(2, 1)]) rfl ?_
    obtain rfl := Option.some.inj hr
    exact r_ret dX12_takesName_16 rfl (Or.inr ⟨rfl, rfl⟩) (k0 _ hk) ⟨rfl, rfl⟩
  · have hr := ifp hr hc
    refine r_iconst dX12_takesName_9 (by decide) ?_
    refine r_scast 0 (v := (0, 0)) (w := (2, 0)) rfl cz (fun _ => Or.inl rfl) (st' := [(2, 0)]) rfl ?_
    obtain rfl := Option.some.inj hr
    exact r_ret dX12_takesName_10 rfl (Or.inr ⟨rfl, rfl⟩) (k0 _ hk) ⟨rfl, rfl⟩
end M_X12_takesName
theorem oX12_takesName {l : Launch} {D : va_G} {G : gG} {h : hH} {a0 a1 a2 : Int} {r : Int × hH} (hr : fX12_takesName h a0 a1 a2 = some r) : Ctr l D G true yX12_takesName M_X12_takesName [(22, a0), (0, a1), (0, a2)] h (some (2, r.1), r.2) :=
  Ctr_of (by decide) rfl (fun z => by cases z) (nl rfl) (fun {p e R s m args below meth c A H0} => by
    exact oX12_takesName_b0 (K := fun z9 => z9 = r) (fun r9 z => by rw [z]) hr rfl)
/-! X12_readTable -/
theorem dX12_readTable_0 : decode cX12_readTable 0 = .ok (.aload_n 0, 1) := by decide +kernel
theorem dX12_readTable_1 : decode cX12_readTable 1 = .ok (.getfield 37, 3) := by decide +kernel
theorem dX12_readTable_4 : decode cX12_readTable 4 = .ok (.iconst 0, 1) := by decide +kernel
theorem dX12_readTable_5 : decode cX12_readTable 5 = .ok (.iaload, 1) := by decide +kernel
theorem dX12_readTable_6 : decode cX12_readTable 6 = .ok (.istore_n 1, 1) := by decide +kernel
theorem dX12_readTable_7 : decode cX12_readTable 7 = .ok (.iload_n 1, 1) := by decide +kernel
theorem dX12_readTable_8 : decode cX12_readTable 8 = .ok (.iconst 4, 1) := by decide +kernel
theorem dX12_readTable_9 : decode cX12_readTable 9 = .ok (.if_icmp .ne 9, 3) := by decide +kernel
theorem dX12_readTable_12 : decode cX12_readTable 12 = .ok (.aload_n 0, 1) := by decide +kernel
theorem dX12_readTable_13 : decode cX12_readTable 13 = .ok (.iconst 4, 1) := by decide +kernel
theorem dX12_readTable_14 : decode cX12_readTable 14 = .ok (.invokevirtual 223, 3) := by decide +kernel
theorem dX12_readTable_17 : decode cX12_readTable 17 = .ok (.ireturn, 1) := by decide +kernel
theorem dX12_readTable_18 : decode cX12_readTable 18 = .ok (.aload_n 0, 1) := by decide +kernel
theorem dX12_readTable_19 : decode cX12_readTable 19 = .ok (.invokevirtual 226, 3) := by decide +kernel
theorem dX12_readTable_22 : decode cX12_readTable 22 = .ok (.aload_n 0, 1) := by decide +kernel
theorem dX12_readTable_23 : decode cX12_readTable 23 = .ok (.invokevirtual 236, 3) := by decide +kernel
theorem dX12_readTable_26 : decode cX12_readTable 26 = .ok (.ifCond .ne 9, 3) := by decide +kernel
theorem dX12_readTable_29 : decode cX12_readTable 29 = .ok (.aload_n 0, 1) := by decide +kernel
theorem dX12_readTable_30 : decode cX12_readTable 30 = .ok (.iconst 1, 1) := by decide +kernel
theorem dX12_readTable_31 : decode cX12_readTable 31 = .ok (.invokevirtual 223, 3) := by decide +kernel
theorem dX12_readTable_34 : decode cX12_readTable 34 = .ok (.ireturn, 1) := by decide +kernel
theorem dX12_readTable_35 : decode cX12_readTable 35 = .ok (.aload_n 0, 1) := by decide +kernel
theorem dX12_readTable_36 : decode cX12_readTable 36 = .ok (.bipush 20, 2) := by decide +kernel
theorem dX12_readTable_38 : decode cX12_readTable 38 = .ok (.iload_n 1, 1) := by decide +kernel
theorem dX12_readTable_39 : decode cX12_readTable 39 = .ok (.invokevirtual 240, 3) := by decide +kernel
theorem dX12_readTable_42 : decode cX12_readTable 42 = .ok (.ifCond .lt 9, 3) := by decide +kernel
theorem dX12_readTable_45 : decode cX12_readTable 45 = .ok (.aload_n 0, 1) := by decide +kernel
theorem dX12_readTable_46 : decode cX12_readTable 46 = .ok (.iconst 3, 1) := by decide +kernel
theorem dX12_readTable_47 : decode cX12_readTable 47 = .ok (.invokevirtual 223, 3) := by decide +kernel
theorem dX12_readTable_50 : decode cX12_readTable 50 = .ok (.ireturn, 1) := by decide +kernel
theorem dX12_readTable_51 : decode cX12_readTable 51 = .ok (.aload_n 0, 1) := by decide +kernel
theorem dX12_readTable_52 : decode cX12_readTable 52 = .ok (.getfield 46, 3) := by decide +kernel
theorem dX12_readTable_55 : decode cX12_readTable 55 = .ok (.bipush 20, 2) := by decide +kernel
theorem dX12_readTable_57 : decode cX12_readTable 57 = .ok (.iload_n 1, 1) := by decide +kernel
theorem dX12_readTable_58 : decode cX12_readTable 58 = .ok (.iadd, 1) := by decide +kernel
theorem dX12_readTable_59 : decode cX12_readTable 59 = .ok (.aload_n 0, 1) := by decide +kernel
theorem dX12_readTable_60 : decode cX12_readTable 60 = .ok (.getfield 210, 3) := by decide +kernel
theorem dX12_readTable_63 : decode cX12_readTable 63 = .ok (.lastore, 1) := by decide +kernel
theorem dX12_readTable_64 : decode cX12_readTable 64 = .ok (.aload_n 0, 1) := by decide +kernel
theorem dX12_readTable_65 : decode cX12_readTable 65 = .ok (.invokevirtual 226, 3) := by decide +kernel
theorem dX12_readTable_68 : decode cX12_readTable 68 = .ok (.aload_n 0, 1) := by decide +kernel
theorem dX12_readTable_69 : decode cX12_readTable 69 = .ok (.getfield 37, 3) := by decide +kernel
theorem dX12_readTable_72 : decode cX12_readTable 72 = .ok (.iconst 4, 1) := by decide +kernel
theorem dX12_readTable_73 : decode cX12_readTable 73 = .ok (.iload_n 1, 1) := by decide +kernel
theorem dX12_readTable_74 : decode cX12_readTable 74 = .ok (.iadd, 1) := by decide +kernel
theorem dX12_readTable_75 : decode cX12_readTable 75 = .ok (.iconst 0, 1) := by decide +kernel
theorem dX12_readTable_76 : decode cX12_readTable 76 = .ok (.iastore, 1) := by decide +kernel
theorem dX12_readTable_77 : decode cX12_readTable 77 = .ok (.aload_n 0, 1) := by decide +kernel
theorem dX12_readTable_78 : decode cX12_readTable 78 = .ok (.getfield 37, 3) := by decide +kernel
theorem dX12_readTable_81 : decode cX12_readTable 81 = .ok (.iconst 4, 1) := by decide +kernel
theorem dX12_readTable_82 : decode cX12_readTable 82 = .ok (.iload_n 1, 1) := by decide +kernel
theorem dX12_readTable_83 : decode cX12_readTable 83 = .ok (.iadd, 1) := by decide +kernel
theorem dX12_readTable_84 : decode cX12_readTable 84 = .ok (.iaload, 1) := by decide +kernel
theorem dX12_readTable_85 : decode cX12_readTable 85 = .ok (.ifCond .eq 12, 3) := by decide +kernel
theorem dX12_readTable_88 : decode cX12_readTable 88 = .ok (.aload_n 0, 1) := by decide +kernel
theorem dX12_readTable_89 : decode cX12_readTable 89 = .ok (.bipush 59, 2) := by decide +kernel
theorem dX12_readTable_91 : decode cX12_readTable 91 = .ok (.invokevirtual 220, 3) := by decide +kernel
theorem dX12_readTable_94 : decode cX12_readTable 94 = .ok (.ifCond .ne 92, 3) := by decide +kernel
theorem dX12_readTable_97 : decode cX12_readTable 97 = .ok (.aload_n 0, 1) := by decide +kernel
theorem dX12_readTable_98 : decode cX12_readTable 98 = .ok (.getfield 37, 3) := by decide +kernel
theorem dX12_readTable_101 : decode cX12_readTable 101 = .ok (.iconst 4, 1) := by decide +kernel
theorem dX12_readTable_102 : decode cX12_readTable 102 = .ok (.iload_n 1, 1) := by decide +kernel
theorem dX12_readTable_103 : decode cX12_readTable 103 = .ok (.iadd, 1) := by decide +kernel
theorem dX12_readTable_104 : decode cX12_readTable 104 = .ok (.iaload, 1) := by decide +kernel
theorem dX12_readTable_105 : decode cX12_readTable 105 = .ok (.istore_n 2, 1) := by decide +kernel
theorem dX12_readTable_106 : decode cX12_readTable 106 = .ok (.aload_n 0, 1) := by decide +kernel
theorem dX12_readTable_107 : decode cX12_readTable 107 = .ok (.invokevirtual 236, 3) := by decide +kernel
theorem dX12_readTable_110 : decode cX12_readTable 110 = .ok (.ifCond .ne 9, 3) := by decide +kernel
theorem dX12_readTable_113 : decode cX12_readTable 113 = .ok (.aload_n 0, 1) := by decide +kernel
theorem dX12_readTable_114 : decode cX12_readTable 114 = .ok (.iconst 1, 1) := by decide +kernel
theorem dX12_readTable_115 : decode cX12_readTable 115 = .ok (.invokevirtual 223, 3) := by decide +kernel
theorem dX12_readTable_118 : decode cX12_readTable 118 = .ok (.ireturn, 1) := by decide +kernel
theorem dX12_readTable_119 : decode cX12_readTable 119 = .ok (.aload_n 0, 1) := by decide +kernel
theorem dX12_readTable_120 : decode cX12_readTable 120 = .ok (.bipush 24, 2) := by decide +kernel
theorem dX12_readTable_122 : decode cX12_readTable 122 = .ok (.iconst 4, 1) := by decide +kernel
theorem dX12_readTable_123 : decode cX12_readTable 123 = .ok (.iload_n 1, 1) := by decide +kernel
theorem dX12_readTable_124 : decode cX12_readTable 124 = .ok (.imul, 1) := by decide +kernel
theorem dX12_readTable_125 : decode cX12_readTable 125 = .ok (.iadd, 1) := by decide +kernel
theorem dX12_readTable_126 : decode cX12_readTable 126 = .ok (.iload_n 2, 1) := by decide +kernel
theorem dX12_readTable_127 : decode cX12_readTable 127 = .ok (.invokevirtual 240, 3) := by decide +kernel
theorem dX12_readTable_130 : decode cX12_readTable 130 = .ok (.ifCond .lt 9, 3) := by decide +kernel
theorem dX12_readTable_133 : decode cX12_readTable 133 = .ok (.aload_n 0, 1) := by decide +kernel
theorem dX12_readTable_134 : decode cX12_readTable 134 = .ok (.iconst 3, 1) := by decide +kernel
theorem dX12_readTable_135 : decode cX12_readTable 135 = .ok (.invokevirtual 223, 3) := by decide +kernel
theorem dX12_readTable_138 : decode cX12_readTable 138 = .ok (.ireturn, 1) := by decide +kernel
theorem dX12_readTable_139 : decode cX12_readTable 139 = .ok (.iload_n 2, 1) := by decide +kernel
theorem dX12_readTable_140 : decode cX12_readTable 140 = .ok (.iconst 4, 1) := by decide +kernel
theorem dX12_readTable_141 : decode cX12_readTable 141 = .ok (.if_icmp .ne 9, 3) := by decide +kernel
theorem dX12_readTable_144 : decode cX12_readTable 144 = .ok (.aload_n 0, 1) := by decide +kernel
theorem dX12_readTable_145 : decode cX12_readTable 145 = .ok (.iconst 4, 1) := by decide +kernel
theorem dX12_readTable_146 : decode cX12_readTable 146 = .ok (.invokevirtual 223, 3) := by decide +kernel
theorem dX12_readTable_149 : decode cX12_readTable 149 = .ok (.ireturn, 1) := by decide +kernel
theorem dX12_readTable_150 : decode cX12_readTable 150 = .ok (.aload_n 0, 1) := by decide +kernel
theorem dX12_readTable_151 : decode cX12_readTable 151 = .ok (.getfield 46, 3) := by decide +kernel
theorem dX12_readTable_154 : decode cX12_readTable 154 = .ok (.bipush 24, 2) := by decide +kernel
theorem dX12_readTable_156 : decode cX12_readTable 156 = .ok (.iconst 4, 1) := by decide +kernel
theorem dX12_readTable_157 : decode cX12_readTable 157 = .ok (.iload_n 1, 1) := by decide +kernel
theorem dX12_readTable_158 : decode cX12_readTable 158 = .ok (.imul, 1) := by decide +kernel
theorem dX12_readTable_159 : decode cX12_readTable 159 = .ok (.iadd, 1) := by decide +kernel
theorem dX12_readTable_160 : decode cX12_readTable 160 = .ok (.iload_n 2, 1) := by decide +kernel
theorem dX12_readTable_161 : decode cX12_readTable 161 = .ok (.iadd, 1) := by decide +kernel
theorem dX12_readTable_162 : decode cX12_readTable 162 = .ok (.aload_n 0, 1) := by decide +kernel
theorem dX12_readTable_163 : decode cX12_readTable 163 = .ok (.getfield 210, 3) := by decide +kernel
theorem dX12_readTable_166 : decode cX12_readTable 166 = .ok (.lastore, 1) := by decide +kernel
theorem dX12_readTable_167 : decode cX12_readTable 167 = .ok (.aload_n 0, 1) := by decide +kernel
theorem dX12_readTable_168 : decode cX12_readTable 168 = .ok (.getfield 37, 3) := by decide +kernel
theorem dX12_readTable_171 : decode cX12_readTable 171 = .ok (.iconst 4, 1) := by decide +kernel
theorem dX12_readTable_172 : decode cX12_readTable 172 = .ok (.iload_n 1, 1) := by decide +kernel
theorem dX12_readTable_173 : decode cX12_readTable 173 = .ok (.iadd, 1) := by decide +kernel
theorem dX12_readTable_174 : decode cX12_readTable 174 = .ok (.dup2, 1) := by decide +kernel
theorem dX12_readTable_175 : decode cX12_readTable 175 = .ok (.iaload, 1) := by decide +kernel
theorem dX12_readTable_176 : decode cX12_readTable 176 = .ok (.iconst 1, 1) := by decide +kernel
theorem dX12_readTable_177 : decode cX12_readTable 177 = .ok (.iadd, 1) := by decide +kernel
theorem dX12_readTable_178 : decode cX12_readTable 178 = .ok (.iastore, 1) := by decide +kernel
theorem dX12_readTable_179 : decode cX12_readTable 179 = .ok (.aload_n 0, 1) := by decide +kernel
theorem dX12_readTable_180 : decode cX12_readTable 180 = .ok (.invokevirtual 226, 3) := by decide +kernel
theorem dX12_readTable_183 : decode cX12_readTable 183 = .ok (.goto (-106), 3) := by decide +kernel
theorem dX12_readTable_186 : decode cX12_readTable 186 = .ok (.aload_n 0, 1) := by decide +kernel
theorem dX12_readTable_187 : decode cX12_readTable 187 = .ok (.getfield 37, 3) := by decide +kernel
theorem dX12_readTable_190 : decode cX12_readTable 190 = .ok (.iconst 0, 1) := by decide +kernel
theorem dX12_readTable_191 : decode cX12_readTable 191 = .ok (.dup2, 1) := by decide +kernel
theorem dX12_readTable_192 : decode cX12_readTable 192 = .ok (.iaload, 1) := by decide +kernel
theorem dX12_readTable_193 : decode cX12_readTable 193 = .ok (.iconst 1, 1) := by decide +kernel
theorem dX12_readTable_194 : decode cX12_readTable 194 = .ok (.iadd, 1) := by decide +kernel
theorem dX12_readTable_195 : decode cX12_readTable 195 = .ok (.iastore, 1) := by decide +kernel
theorem dX12_readTable_196 : decode cX12_readTable 196 = .ok (.iconst 1, 1) := by decide +kernel
theorem dX12_readTable_197 : decode cX12_readTable 197 = .ok (.ireturn, 1) := by decide +kernel
abbrev M_X12_readTable : mM := (cX12_readTable, 3, RX12, some .boolean, false, 2, 43, 0, 0)
theorem gX12_readTable : cI yX12_readTable M_X12_readTable 0 := ⟨(wsl_25 _ (List.mem_of_getElem? (i := 3) rfl)), (wsl_25 _ (List.mem_of_getElem? (i := 4) rfl)), (wsl_1 _ (List.mem_of_getElem? (i := 5) rfl)), (wsl_25 _ (List.mem_of_getElem? (i := 5) rfl)), by decide +kernel⟩
noncomputable def fX12_readTable_b97 (h : hH) (a0 l1 : Int) : Option ((hH) ⊕ (Int × hH)) :=
  (aget h (h a0 7) (w32 (4 + l1))).bind fun v104 =>
  (fX12_isName h a0).bind fun r107 =>
  if r107 = 0 then
    (fX12_bad h a0 1).bind fun q115 =>
    some (.inr ((q115.1, q115.2)))
  else
    (fX12_seek h a0 (w32 (24 + (w32 (4 * l1)))) v104).bind fun r127 =>
    if r127 < 0 then
      if v104 = 4 then
        (fX12_bad h a0 4).bind fun q146 =>
        some (.inr ((q146.1, q146.2)))
      else
        (aput h (h a0 10) (w32 ((w32 (24 + (w32 (4 * l1)))) + v104)) (h a0 18)).bind fun h166 =>
        (aget h166 (h166 a0 7) (w32 (4 + l1))).bind fun v175 =>
        (aput h166 (h166 a0 7) (w32 (4 + l1)) (w32 (v175 + 1))).bind fun h178 =>
        (fX12_next h178 a0).bind fun h180 =>
        some (.inl h180)
    else
      (fX12_bad h a0 3).bind fun q135 =>
      some (.inr ((q135.1, q135.2)))
noncomputable def fX12_readTable_s77 (h0 : hH) (a0 l1 : Int) : hH → Option ((hH) ⊕ (Int × hH)) := fun h =>
  (aget h (h a0 7) (w32 (4 + l1))).bind fun v84 =>
  if v84 = 0 then
    fX12_readTable_b97 h a0 l1
  else
    (fX12_isSign h a0 59).bind fun r91 =>
    if r91 = 0 then
      fX12_readTable_b97 h a0 l1
    else
      (aget h (h a0 7) 0).bind fun v192 =>
      (aput h (h a0 7) 0 (w32 (v192 + 1))).bind fun h195 =>
      some (.inr ((1, h195)))
noncomputable def fX12_readTable (h : hH) (a0 : Int) : Option (Int × hH) :=
  (aget h (h a0 7) 0).bind fun v5 =>
  if v5 = 4 then
    (fX12_bad h a0 4).bind fun q14 =>
    some (q14.1, q14.2)
  else
    (fX12_next h a0).bind fun h19 =>
    (fX12_isName h19 a0).bind fun r23 =>
    if r23 = 0 then
      (fX12_bad h19 a0 1).bind fun q31 =>
      some (q31.1, q31.2)
    else
      (fX12_seek h19 a0 20 v5).bind fun r39 =>
      if r39 < 0 then
        (aput h19 (h19 a0 10) (w32 (20 + v5)) (h19 a0 18)).bind fun h63 =>
        (fX12_next h63 a0).bind fun h65 =>
        (aput h65 (h65 a0 7) (w32 (4 + v5)) 0).bind fun h76 =>
        lpO (fX12_readTable_s77 h76 a0 v5) h76
      else
        (fX12_bad h19 a0 3).bind fun q47 =>
        some (q47.1, q47.2)
section M_X12_readTable
variable {p : Program} {l : Launch} {e : Env} {R : Room} {s : State} {m : MethodId} {args : Array Value} {below : List Frame} {meth : Method} {c : Code} {D : va_G} {G : gG} {A : Nat → Prop} {H0 : Heap} {n0 : Int} {x : Option vV × hH} {h : hH}
set_option maxRecDepth 100000 in
set_option maxHeartbeats 4000000 in
theorem oX12_readTable_b97 {a0 l1 : Int} {K : (hH) ⊕ (Int × hH) → Prop} (k0 : ∀ r, K (.inr (r)) → x = (some (2, r.1), r.2)) (k1 : ∀ (h : hH), K (.inl h) → Wq p l e R s m args below meth c D G A H0 true n0 M_X12_readTable x 0 0 77 [(0, (22, a0)), (1, (0, l1))] [] h) {r : (hH) ⊕ (Int × hH)} (hr : fX12_readTable_b97 h a0 l1 = some r) (hk : K r) : Wq p l e R s m args below meth c D G A H0 true n0 M_X12_readTable x 0 0 97 [(0, (22, a0)), (1, (0, l1))] [] h := by
  unfold fX12_readTable_b97 at hr
  refine r_aload_n dX12_readTable_97 rfl 0 rfl (nl rfl) ?_
  refine r_get 12 7 (o := a0) (w := (50, h a0 7)) (T := TX12) (ref := "FollowingRefsModel") rfl (by decide) rfl (by decide) inlX12 (wsl_7 _ (List.mem_of_getElem? (i := 9) rfl)) rfl dX12_readTable_98 rfl ?_
  refine r_iconst dX12_readTable_101 (by decide) ?_
  refine r_iload_n dX12_readTable_102 rfl 1 rfl (Or.inl rfl) ?_
  refine r_iadd dX12_readTable_103 ?_
  obtain ⟨v104, hg104, hr⟩ := bnd hr
  refine r_iald dX12_readTable_104 hg104 ?_
  refine r_istore_n dX12_readTable_105 rfl (Or.inl rfl) (by decide) (lv' := [(2, (0, v104)), (0, (22, a0)), (1, (0, l1))]) rfl ?_
  refine r_aload_n dX12_readTable_106 rfl 1 rfl (nl rfl) ?_
  obtain ⟨r107, hg107, hr⟩ := bnd hr
  refine k_V (ci := 12) (o := a0) (T := TX12) (as := []) (rest := []) (X := (some (2, r107), h)) (oX12_isName hg107) gX12_isName rfl (by decide) rfl (wsl_25 _ (List.mem_of_getElem? (i := 10) rfl)) rfl dX12_readTable_107 rfl ?_
  refine r_scast 0 (v := (2, r107)) (w := (0, r107)) rfl zc hTz (st' := [(0, r107)]) rfl ?_
  refine r_if_ne dX12_readTable_110 (tgt := 119) (by decide) (fun hc => ?_) (fun hc => ?_)
  · have hr := ifn hr hc
    refine r_aload_n dX12_readTable_119 rfl 1 rfl (nl rfl) ?_
    refine r_bipush dX12_readTable_120 (by decide) (by decide) ?_
    refine r_iconst dX12_readTable_122 (by decide) ?_
    refine r_iload_n dX12_readTable_123 rfl 2 rfl (Or.inl rfl) ?_
    refine r_imul dX12_readTable_124 ?_
    refine r_iadd dX12_readTable_125 ?_
    refine r_iload_n dX12_readTable_126 rfl 0 rfl (Or.inl rfl) ?_
    obtain ⟨r127, hg127, hr⟩ := bnd hr
    refine k_V (ci := 12) (o := a0) (T := TX12) (as := [(0, w32 (24 + (w32 (4 * l1)))), (0, v104)]) (rest := []) (X := (some (0, r127), h)) (oX12_seek hg127) gX12_seek rfl (by decide) rfl (wsl_25 _ (List.mem_of_getElem? (i := 14) rfl)) rfl dX12_readTable_127 rfl ?_
    refine r_if_lt dX12_readTable_130 (tgt := 139) (by decide) (fun hc => ?_) (fun hc => ?_)
    · have hr := ifp hr hc
      refine r_iload_n dX12_readTable_139 rfl 0 rfl (Or.inl rfl) ?_
      refine r_iconst dX12_readTable_140 (by decide) ?_
      refine r_icmp_ne dX12_readTable_141 (tgt := 150) (by decide) (fun hc => ?_) (fun hc => ?_)
      · have hr := ifn hr hc
        refine r_aload_n dX12_readTable_150 rfl 1 rfl (nl rfl) ?_
        refine r_get 12 10 (o := a0) (w := (51, h a0 10)) (T := TX12) (ref := "FollowingRefsModel") rfl (by decide) rfl (by decide) inlX12 (wsl_7 _ (List.mem_of_getElem? (i := 12) rfl)) rfl dX12_readTable_151 rfl ?_
        refine r_bipush dX12_readTable_154 (by decide) (by decide) ?_
        refine r_iconst dX12_readTable_156 (by decide) ?_
        refine r_iload_n dX12_readTable_157 rfl 2 rfl (Or.inl rfl) ?_
        refine r_imul dX12_readTable_158 ?_
        refine r_iadd dX12_readTable_159 ?_
        refine r_iload_n dX12_readTable_160 rfl 0 rfl (Or.inl rfl) ?_
        refine r_iadd dX12_readTable_161 ?_
        refine r_aload_n dX12_readTable_162 rfl 1 rfl (nl rfl) ?_
        refine r_get 12 18 (o := a0) (w := (1, h a0 18)) (T := TX12) (ref := "FollowingRefsModel") rfl (by decide) rfl (by decide) inlX12 (wsl_24 _ (List.mem_of_getElem? (i := 7) rfl)) rfl dX12_readTable_163 rfl ?_
        obtain ⟨h166, hg166, hr⟩ := bnd hr
        refine r_last dX12_readTable_166 hg166 ?_
        refine r_aload_n dX12_readTable_167 rfl 1 rfl (nl rfl) ?_
        refine r_get 12 7 (o := a0) (w := (50, h166 a0 7)) (T := TX12) (ref := "FollowingRefsModel") rfl (by decide) rfl (by decide) inlX12 (wsl_7 _ (List.mem_of_getElem? (i := 9) rfl)) rfl dX12_readTable_168 rfl ?_
        refine r_iconst dX12_readTable_171 (by decide) ?_
        refine r_iload_n dX12_readTable_172 rfl 2 rfl (Or.inl rfl) ?_
        refine r_iadd dX12_readTable_173 ?_
        refine r_dup2 dX12_readTable_174 (Nat.ne_of_beq_eq_false rfl) (Nat.ne_of_beq_eq_false rfl) ?_
        obtain ⟨v175, hg175, hr⟩ := bnd hr
        refine r_iald dX12_readTable_175 hg175 ?_
        refine r_iconst dX12_readTable_176 (by decide) ?_
        refine r_iadd dX12_readTable_177 ?_
        obtain ⟨h178, hg178, hr⟩ := bnd hr
        refine r_iast dX12_readTable_178 hg178 ?_
        refine r_aload_n dX12_readTable_179 rfl 1 rfl (nl rfl) ?_
        obtain ⟨h180, hg180, hr⟩ := bnd hr
        refine k_V (ci := 12) (o := a0) (T := TX12) (as := []) (rest := []) (X := (none, h180)) (oX12_next hg180) gX12_next rfl (by decide) rfl (wsl_24 _ (List.mem_of_getElem? (i := 0) rfl)) rfl dX12_readTable_180 rfl ?_
        refine r_goto dX12_readTable_183 (tgt := 77) (by decide) ?_
        refine r_sub [1, 2] (lv' := [(0, (22, a0)), (1, (0, l1))]) rfl ?_
        obtain rfl := Option.some.inj hr
        exact k1 _ hk
      · have hr := ifp hr hc
        refine r_aload_n dX12_readTable_144 rfl 1 rfl (nl rfl) ?_
        refine r_iconst dX12_readTable_145 (by decide) ?_
        obtain ⟨q146, hg146, hr⟩ := bnd hr
        refine k_V (ci := 12) (o := a0) (T := TX12) (as := [(0, 4)]) (rest := []) (X := (some (2, q146.1), q146.2)) (oX12_bad hg146) gX12_bad rfl (by decide) rfl (wsl_25 _ (List.mem_of_getElem? (i := 6) rfl)) rfl dX12_readTable_146 rfl ?_
        obtain rfl := Option.some.inj hr
        exact r_ret dX12_readTable_149 rfl (Or.inr ⟨rfl, rfl⟩) (k0 _ hk) ⟨rfl, rfl⟩
    · have hr := ifn hr hc
      refine r_aload_n dX12_readTable_133 rfl 1 rfl (nl rfl) ?_
      refine r_iconst dX12_readTable_134 (by decide) ?_
      obtain ⟨q135, hg135, hr⟩ := bnd hr
      refine k_V (ci := 12) (o := a0) (T := TX12) (as := [(0, 3)]) (rest := []) (X := (some (2, q135.1), q135.2)) (oX12_bad hg135) gX12_bad rfl (by decide) rfl (wsl_25 _ (List.mem_of_getElem? (i := 6) rfl)) rfl dX12_readTable_135 rfl ?_
      obtain rfl := Option.some.inj hr
      exact r_ret dX12_readTable_138 rfl (Or.inr ⟨rfl, rfl⟩) (k0 _ hk) ⟨rfl, rfl⟩
  · have hr := ifp hr hc
    refine r_aload_n dX12_readTable_113 rfl 1 rfl (nl rfl) ?_
    refine r_iconst dX12_readTable_114 (by decide) ?_
    obtain ⟨q115, hg115, hr⟩ := bnd hr
    refine k_V (ci := 12) (o := a0) (T := TX12) (as := [(0, 1)]) (rest := []) (X := (some (2, q115.1), q115.2)) (oX12_bad hg115) gX12_bad rfl (by decide) rfl (wsl_25 _ (List.mem_of_getElem? (i := 6) rfl)) rfl dX12_readTable_115 rfl ?_
    obtain rfl := Option.some.inj hr
    exact r_ret dX12_readTable_118 rfl (Or.inr ⟨rfl, rfl⟩) (k0 _ hk) ⟨rfl, rfl⟩
set_option maxRecDepth 100000 in
set_option maxHeartbeats 4000000 in
theorem oX12_readTable_s77 {h0 : hH} {a0 l1 : Int} {K : (hH) ⊕ (Int × hH) → Prop} (k0 : ∀ r, K (.inr (r)) → x = (some (2, r.1), r.2)) (k1 : ∀ (h : hH), K (.inl h) → Wq p l e R s m args below meth c D G A H0 true n0 M_X12_readTable x 0 0 77 [(0, (22, a0)), (1, (0, l1))] [] h) {r : (hH) ⊕ (Int × hH)} (hr : fX12_readTable_s77 h0 a0 l1 h = some r) (hk : K r) : Wq p l e R s m args below meth c D G A H0 true n0 M_X12_readTable x 0 0 77 [(0, (22, a0)), (1, (0, l1))] [] h := by
  unfold fX12_readTable_s77 at hr
  refine r_aload_n dX12_readTable_77 rfl 0 rfl (nl rfl) ?_
  refine r_get 12 7 (o := a0) (w := (50, h a0 7)) (T := TX12) (ref := "FollowingRefsModel") rfl (by decide) rfl (by decide) inlX12 (wsl_7 _ (List.mem_of_getElem? (i := 9) rfl)) rfl dX12_readTable_78 rfl ?_
  refine r_iconst dX12_readTable_81 (by decide) ?_
  refine r_iload_n dX12_readTable_82 rfl 1 rfl (Or.inl rfl) ?_
  refine r_iadd dX12_readTable_83 ?_
  obtain ⟨v84, hg84, hr⟩ := bnd hr
  refine r_iald dX12_readTable_84 hg84 ?_
  refine r_if_eq dX12_readTable_85 (tgt := 97) (by decide) (fun hc => ?_) (fun hc => ?_)
  · have hr := ifp hr hc
    exact oX12_readTable_b97 (K := K) (fun r z => k0 r z) (fun _ z => k1 _ z) hr hk
  · have hr := ifn hr hc
    refine r_aload_n dX12_readTable_88 rfl 0 rfl (nl rfl) ?_
    refine r_bipush dX12_readTable_89 (by decide) (by decide) ?_
    obtain ⟨r91, hg91, hr⟩ := bnd hr
    refine k_V (ci := 12) (o := a0) (T := TX12) (as := [(0, 59)]) (rest := []) (X := (some (2, r91), h)) (oX12_isSign hg91) gX12_isSign rfl (by decide) rfl (wsl_25 _ (List.mem_of_getElem? (i := 18) rfl)) rfl dX12_readTable_91 rfl ?_
    refine r_scast 0 (v := (2, r91)) (w := (0, r91)) rfl zc hTz (st' := [(0, r91)]) rfl ?_
    refine r_if_ne dX12_readTable_94 (tgt := 186) (by decide) (fun hc => ?_) (fun hc => ?_)
    · have hr := ifn hr hc
      refine r_aload_n dX12_readTable_186 rfl 0 rfl (nl rfl) ?_
      refine r_get 12 7 (o := a0) (w := (50, h a0 7)) (T := TX12) (ref := "FollowingRefsModel") rfl (by decide) rfl (by decide) inlX12 (wsl_7 _ (List.mem_of_getElem? (i := 9) rfl)) rfl dX12_readTable_187 rfl ?_
      refine r_iconst dX12_readTable_190 (by decide) ?_
      refine r_dup2 dX12_readTable_191 (Nat.ne_of_beq_eq_false rfl) (Nat.ne_of_beq_eq_false rfl) ?_
      obtain ⟨v192, hg192, hr⟩ := bnd hr
      refine r_iald dX12_readTable_192 hg192 ?_
      refine r_iconst dX12_readTable_193 (by decide) ?_
      refine r_iadd dX12_readTable_194 ?_
      obtain ⟨h195, hg195, hr⟩ := bnd hr
      refine r_iast dX12_readTable_195 hg195 ?_
      refine r_iconst dX12_readTable_196 (by decide) ?_
      refine r_scast 0 (v := (0, 1)) (w := (2, 1)) rfl cz (fun _ => Or.inr rfl) (st' := [(2, 1)]) rfl ?_
      obtain rfl := Option.some.inj hr
      exact r_ret dX12_readTable_197 rfl (Or.inr ⟨rfl, rfl⟩) (k0 _ hk) ⟨rfl, rfl⟩
    · have hr := ifp hr hc
      exact oX12_readTable_b97 (K := K) (fun r z => k0 r z) (fun _ z => k1 _ z) hr hk
set_option maxRecDepth 100000 in
set_option maxHeartbeats 4000000 in
theorem oX12_readTable_b0 {a0 : Int} {K : Int × hH → Prop} (k0 : ∀ r, K (r) → x = (some (2, r.1), r.2)) {r : Int × hH} (hr : fX12_readTable h a0 = some r) (hk : K r) : Wq p l e R s m args below meth c D G A H0 true n0 M_X12_readTable x 0 0 0 [(0, (22, a0))] [] h := by
  unfold fX12_readTable at hr
  refine r_aload_n dX12_readTable_0 rfl 0 rfl (nl rfl) ?_
  refine r_get 12 7 (o := a0) (w := (50, h a0 7)) (T := TX12) (ref := "FollowingRefsModel") rfl (by decide) rfl (by decide) inlX12 (wsl_7 _ (List.mem_of_getElem? (i := 9) rfl)) rfl dX12_readTable_1 rfl ?_
  refine r_iconst dX12_readTable_4 (by decide) ?_
  obtain ⟨v5, hg5, hr⟩ := bnd hr
  refine r_iald dX12_readTable_5 hg5 ?_
  refine r_istore_n dX12_readTable_6 rfl (Or.inl rfl) (by decide) (lv' := [(1, (0, v5)), (0, (22, a0))]) rfl ?_
  refine r_iload_n dX12_readTable_7 rfl 0 rfl (Or.inl rfl) ?_
  refine r_iconst dX12_readTable_8 (by decide) ?_
  refine r_icmp_ne dX12_readTable_9 (tgt := 18) (by decide) (fun hc => ?_) (fun hc => ?_)
  · have hr := ifn hr hc
    refine r_aload_n dX12_readTable_18 rfl 1 rfl (nl rfl) ?_
    obtain ⟨h19, hg19, hr⟩ := bnd hr
    refine k_V (ci := 12) (o := a0) (T := TX12) (as := []) (rest := []) (X := (none, h19)) (oX12_next hg19) gX12_next rfl (by decide) rfl (wsl_24 _ (List.mem_of_getElem? (i := 0) rfl)) rfl dX12_readTable_19 rfl ?_
    refine r_aload_n dX12_readTable_22 rfl 1 rfl (nl rfl) ?_
    obtain ⟨r23, hg23, hr⟩ := bnd hr
    refine k_V (ci := 12) (o := a0) (T := TX12) (as := []) (rest := []) (X := (some (2, r23), h19)) (oX12_isName hg23) gX12_isName rfl (by decide) rfl (wsl_25 _ (List.mem_of_getElem? (i := 10) rfl)) rfl dX12_readTable_23 rfl ?_
    refine r_scast 0 (v := (2, r23)) (w := (0, r23)) rfl zc hTz (st' := [(0, r23)]) rfl ?_
    refine r_if_ne dX12_readTable_26 (tgt := 35) (by decide) (fun hc => ?_) (fun hc => ?_)
    · have hr := ifn hr hc
      refine r_aload_n dX12_readTable_35 rfl 1 rfl (nl rfl) ?_
      refine r_bipush dX12_readTable_36 (by decide) (by decide) ?_
      refine r_iload_n dX12_readTable_38 rfl 0 rfl (Or.inl rfl) ?_
      obtain ⟨r39, hg39, hr⟩ := bnd hr
      refine k_V (ci := 12) (o := a0) (T := TX12) (as := [(0, 20), (0, v5)]) (rest := []) (X := (some (0, r39), h19)) (oX12_seek hg39) gX12_seek rfl (by decide) rfl (wsl_25 _ (List.mem_of_getElem? (i := 14) rfl)) rfl dX12_readTable_39 rfl ?_
      refine r_if_lt dX12_readTable_42 (tgt := 51) (by decide) (fun hc => ?_) (fun hc => ?_)
      · have hr := ifp hr hc
        refine r_aload_n dX12_readTable_51 rfl 1 rfl (nl rfl) ?_
        refine r_get 12 10 (o := a0) (w := (51, h19 a0 10)) (T := TX12) (ref := "FollowingRefsModel") rfl (by decide) rfl (by decide) inlX12 (wsl_7 _ (List.mem_of_getElem? (i := 12) rfl)) rfl dX12_readTable_52 rfl ?_
        refine r_bipush dX12_readTable_55 (by decide) (by decide) ?_
        refine r_iload_n dX12_readTable_57 rfl 0 rfl (Or.inl rfl) ?_
        refine r_iadd dX12_readTable_58 ?_
        refine r_aload_n dX12_readTable_59 rfl 1 rfl (nl rfl) ?_
        refine r_get 12 18 (o := a0) (w := (1, h19 a0 18)) (T := TX12) (ref := "FollowingRefsModel") rfl (by decide) rfl (by decide) inlX12 (wsl_24 _ (List.mem_of_getElem? (i := 7) rfl)) rfl dX12_readTable_60 rfl ?_
        obtain ⟨h63, hg63, hr⟩ := bnd hr
        refine r_last dX12_readTable_63 hg63 ?_
        refine r_aload_n dX12_readTable_64 rfl 1 rfl (nl rfl) ?_
        obtain ⟨h65, hg65, hr⟩ := bnd hr
        refine k_V (ci := 12) (o := a0) (T := TX12) (as := []) (rest := []) (X := (none, h65)) (oX12_next hg65) gX12_next rfl (by decide) rfl (wsl_24 _ (List.mem_of_getElem? (i := 0) rfl)) rfl dX12_readTable_65 rfl ?_
        refine r_aload_n dX12_readTable_68 rfl 1 rfl (nl rfl) ?_
        refine r_get 12 7 (o := a0) (w := (50, h65 a0 7)) (T := TX12) (ref := "FollowingRefsModel") rfl (by decide) rfl (by decide) inlX12 (wsl_7 _ (List.mem_of_getElem? (i := 9) rfl)) rfl dX12_readTable_69 rfl ?_
        refine r_iconst dX12_readTable_72 (by decide) ?_
        refine r_iload_n dX12_readTable_73 rfl 0 rfl (Or.inl rfl) ?_
        refine r_iadd dX12_readTable_74 ?_
        refine r_iconst dX12_readTable_75 (by decide) ?_
        obtain ⟨h76, hg76, hr⟩ := bnd hr
        refine r_iast dX12_readTable_76 hg76 ?_
        refine r_sub [1, 0] (lv' := [(0, (22, a0)), (1, (0, v5))]) rfl ?_
        exact lp_ok (w := fun (q : hH) => Wq p l e R s m args below meth c D G A H0 true n0 M_X12_readTable x 0 0 77 [(0, (22, a0)), (1, (0, v5))] [] (q)) (K := K) (fun q r h1 h2 => oX12_readTable_s77 (K := Sum.elim (fun (q : hH) => Wq p l e R s m args below meth c D G A H0 true n0 M_X12_readTable x 0 0 77 [(0, (22, a0)), (1, (0, v5))] [] (q)) (K)) (fun r z => k0 r z) (fun _ z => z) h1 h2) hr hk
      · have hr := ifn hr hc
        refine r_aload_n dX12_readTable_45 rfl 1 rfl (nl rfl) ?_
        refine r_iconst dX12_readTable_46 (by decide) ?_
        obtain ⟨q47, hg47, hr⟩ := bnd hr
        refine k_V (ci := 12) (o := a0) (T := TX12) (as := [(0, 3)]) (rest := []) (X := (some (2, q47.1), q47.2)) (oX12_bad hg47) gX12_bad rfl (by decide) rfl (wsl_25 _ (List.mem_of_getElem? (i := 6) rfl)) rfl dX12_readTable_47 rfl ?_
        obtain rfl := Option.some.inj hr
        exact r_ret dX12_readTable_50 rfl (Or.inr ⟨rfl, rfl⟩) (k0 _ hk) ⟨rfl, rfl⟩
    · have hr := ifp hr hc
      refine r_aload_n dX12_readTable_29 rfl 1 rfl (nl rfl) ?_
      refine r_iconst dX12_readTable_30 (by decide) ?_
      obtain ⟨q31, hg31, hr⟩ := bnd hr
      refine k_V (ci := 12) (o := a0) (T := TX12) (as := [(0, 1)]) (rest := []) (X := (some (2, q31.1), q31.2)) (oX12_bad hg31) gX12_bad rfl (by decide) rfl (wsl_25 _ (List.mem_of_getElem? (i := 6) rfl)) rfl dX12_readTable_31 rfl ?_
      obtain rfl := Option.some.inj hr
      exact r_ret dX12_readTable_34 rfl (Or.inr ⟨rfl, rfl⟩) (k0 _ hk) ⟨rfl, rfl⟩
  · have hr := ifp hr hc
    refine r_aload_n dX12_readTable_12 rfl 1 rfl (nl rfl) ?_
    refine r_iconst dX12_readTable_13 (by decide) ?_
    obtain ⟨q14, hg14, hr⟩ := bnd hr
    refine k_V (ci := 12) (o := a0) (T := TX12) (as := [(0, 4)]) (rest := []) (X := (some (2, q14.1), q14.2)) (oX12_bad hg14) gX12_bad rfl (by decide) rfl (wsl_25 _ (List.mem_of_getElem? (i := 6) rfl)) rfl dX12_readTable_14 rfl ?_
    obtain rfl := Option.some.inj hr
    exact r_ret dX12_readTable_17 rfl (Or.inr ⟨rfl, rfl⟩) (k0 _ hk) ⟨rfl, rfl⟩
end M_X12_readTable
theorem oX12_readTable {l : Launch} {D : va_G} {G : gG} {h : hH} {a0 : Int} {r : Int × hH} (hr : fX12_readTable h a0 = some r) : Ctr l D G true yX12_readTable M_X12_readTable [(22, a0)] h (some (2, r.1), r.2) :=
  Ctr_of (by decide) rfl (fun z => by cases z) (nl rfl) (fun {p e R s m args below meth c A H0} => by
    exact oX12_readTable_b0 (K := fun z9 => z9 = r) (fun r9 z => by rw [z]) hr rfl)
/-! X12_takesTable -/
theorem dX12_takesTable_0 : decode cX12_takesTable 0 = .ok (.aload_n 0, 1) := by decide +kernel
theorem dX12_takesTable_1 : decode cX12_takesTable 1 = .ok (.bipush 20, 2) := by decide +kernel
theorem dX12_takesTable_3 : decode cX12_takesTable 3 = .ok (.aload_n 0, 1) := by decide +kernel
theorem dX12_takesTable_4 : decode cX12_takesTable 4 = .ok (.getfield 37, 3) := by decide +kernel
theorem dX12_takesTable_7 : decode cX12_takesTable 7 = .ok (.iconst 0, 1) := by decide +kernel
theorem dX12_takesTable_8 : decode cX12_takesTable 8 = .ok (.iaload, 1) := by decide +kernel
theorem dX12_takesTable_9 : decode cX12_takesTable 9 = .ok (.invokevirtual 270, 3) := by decide +kernel
theorem dX12_takesTable_12 : decode cX12_takesTable 12 = .ok (.ireturn, 1) := by decide +kernel
abbrev M_X12_takesTable : mM := (cX12_takesTable, 1, RX12, some .boolean, false, 3, 67, 0, 0)
theorem gX12_takesTable : cI yX12_takesTable M_X12_takesTable 0 := ⟨(wsl_26 _ (List.mem_of_getElem? (i := 6) rfl)), (wsl_26 _ (List.mem_of_getElem? (i := 7) rfl)), (wsl_1 _ (List.mem_of_getElem? (i := 5) rfl)), (wsl_26 _ (List.mem_of_getElem? (i := 8) rfl)), by decide +kernel⟩
noncomputable def fX12_takesTable (h : hH) (a0 : Int) : Option (Int × hH) :=
  (aget h (h a0 7) 0).bind fun v8 =>
  (fX12_takesName h a0 20 v8).bind fun q9 =>
  some (q9.1, q9.2)
section M_X12_takesTable
variable {p : Program} {l : Launch} {e : Env} {R : Room} {s : State} {m : MethodId} {args : Array Value} {below : List Frame} {meth : Method} {c : Code} {D : va_G} {G : gG} {A : Nat → Prop} {H0 : Heap} {n0 : Int} {x : Option vV × hH} {h : hH}
set_option maxRecDepth 100000 in
set_option maxHeartbeats 4000000 in
theorem oX12_takesTable_b0 {a0 : Int} {K : Int × hH → Prop} (k0 : ∀ r, K (r) → x = (some (2, r.1), r.2)) {r : Int × hH} (hr : fX12_takesTable h a0 = some r) (hk : K r) : Wq p l e R s m args below meth c D G A H0 true n0 M_X12_takesTable x 0 0 0 [(0, (22, a0))] [] h := by
  unfold fX12_takesTable at hr
  refine r_aload_n dX12_takesTable_0 rfl 0 rfl (nl rfl) ?_
  refine r_bipush dX12_takesTable_1 (by decide) (by decide) ?_
  refine r_aload_n dX12_takesTable_3 rfl 0 rfl (nl rfl) ?_
  refine r_get 12 7 (o := a0) (w := (50, h a0 7)) (T := TX12) (ref := "FollowingRefsModel") rfl (by decide) rfl (by decide) inlX12 (wsl_7 _ (List.mem_of_getElem? (i := 9) rfl)) rfl dX12_takesTable_4 rfl ?_
  refine r_iconst dX12_takesTable_7 (by decide) ?_
  obtain ⟨v8, hg8, hr⟩ := bnd hr
  refine r_iald dX12_takesTable_8 hg8 ?_
  obtain ⟨q9, hg9, hr⟩ := bnd hr
  refine k_V (ci := 12) (o := a0) (T := TX12) (as := [(0, 20), (0, v8)]) (rest := []) (X := (some (2, q9.1), q9.2)) (oX12_takesName hg9) gX12_takesName rfl (by decide) rfl (wsl_26 _ (List.mem_of_getElem? (i := 9) rfl)) rfl dX12_takesTable_9 rfl ?_
  obtain rfl := Option.some.inj hr
  exact r_ret dX12_takesTable_12 rfl (Or.inr ⟨rfl, rfl⟩) (k0 _ hk) ⟨rfl, rfl⟩
end M_X12_takesTable
theorem oX12_takesTable {l : Launch} {D : va_G} {G : gG} {h : hH} {a0 : Int} {r : Int × hH} (hr : fX12_takesTable h a0 = some r) : Ctr l D G true yX12_takesTable M_X12_takesTable [(22, a0)] h (some (2, r.1), r.2) :=
  Ctr_of (by decide) rfl (fun z => by cases z) (nl rfl) (fun {p e R s m args below meth c A H0} => by
    exact oX12_takesTable_b0 (K := fun z9 => z9 = r) (fun r9 z => by rw [z]) hr rfl)
/-! X12_takesCol -/
theorem dX12_takesCol_0 : decode cX12_takesCol 0 = .ok (.aload_n 0, 1) := by decide +kernel
theorem dX12_takesCol_1 : decode cX12_takesCol 1 = .ok (.bipush 24, 2) := by decide +kernel
theorem dX12_takesCol_3 : decode cX12_takesCol 3 = .ok (.iconst 4, 1) := by decide +kernel
theorem dX12_takesCol_4 : decode cX12_takesCol 4 = .ok (.iload_n 1, 1) := by decide +kernel
theorem dX12_takesCol_5 : decode cX12_takesCol 5 = .ok (.imul, 1) := by decide +kernel
theorem dX12_takesCol_6 : decode cX12_takesCol 6 = .ok (.iadd, 1) := by decide +kernel
theorem dX12_takesCol_7 : decode cX12_takesCol 7 = .ok (.aload_n 0, 1) := by decide +kernel
theorem dX12_takesCol_8 : decode cX12_takesCol 8 = .ok (.getfield 37, 3) := by decide +kernel
theorem dX12_takesCol_11 : decode cX12_takesCol 11 = .ok (.iconst 4, 1) := by decide +kernel
theorem dX12_takesCol_12 : decode cX12_takesCol 12 = .ok (.iload_n 1, 1) := by decide +kernel
theorem dX12_takesCol_13 : decode cX12_takesCol 13 = .ok (.iadd, 1) := by decide +kernel
theorem dX12_takesCol_14 : decode cX12_takesCol 14 = .ok (.iaload, 1) := by decide +kernel
theorem dX12_takesCol_15 : decode cX12_takesCol 15 = .ok (.invokevirtual 270, 3) := by decide +kernel
theorem dX12_takesCol_18 : decode cX12_takesCol 18 = .ok (.ireturn, 1) := by decide +kernel
abbrev M_X12_takesCol : mM := (cX12_takesCol, 2, RX12, some .boolean, false, 3, 67, 0, 0)
theorem gX12_takesCol : cI yX12_takesCol M_X12_takesCol 1 := ⟨(wsl_26 _ (List.mem_of_getElem? (i := 22) rfl)), (wsl_26 _ (List.mem_of_getElem? (i := 23) rfl)), (wsl_1 _ (List.mem_of_getElem? (i := 5) rfl)), (wsl_27 _ (List.mem_of_getElem? (i := 0) rfl)), by decide +kernel⟩
noncomputable def fX12_takesCol (h : hH) (a0 a1 : Int) : Option (Int × hH) :=
  (aget h (h a0 7) (w32 (4 + a1))).bind fun v14 =>
  (fX12_takesName h a0 (w32 (24 + (w32 (4 * a1)))) v14).bind fun q15 =>
  some (q15.1, q15.2)
section M_X12_takesCol
variable {p : Program} {l : Launch} {e : Env} {R : Room} {s : State} {m : MethodId} {args : Array Value} {below : List Frame} {meth : Method} {c : Code} {D : va_G} {G : gG} {A : Nat → Prop} {H0 : Heap} {n0 : Int} {x : Option vV × hH} {h : hH}
set_option maxRecDepth 100000 in
set_option maxHeartbeats 4000000 in
theorem oX12_takesCol_b0 {a0 a1 : Int} {K : Int × hH → Prop} (k0 : ∀ r, K (r) → x = (some (2, r.1), r.2)) {r : Int × hH} (hr : fX12_takesCol h a0 a1 = some r) (hk : K r) : Wq p l e R s m args below meth c D G A H0 true n0 M_X12_takesCol x 0 0 0 [(0, (22, a0)), (1, (0, a1))] [] h := by
  unfold fX12_takesCol at hr
  refine r_aload_n dX12_takesCol_0 rfl 0 rfl (nl rfl) ?_
  refine r_bipush dX12_takesCol_1 (by decide) (by decide) ?_
  refine r_iconst dX12_takesCol_3 (by decide) ?_
  refine r_iload_n dX12_takesCol_4 rfl 1 rfl (Or.inl rfl) ?_
  refine r_imul dX12_takesCol_5 ?_
  refine r_iadd dX12_takesCol_6 ?_
  refine r_aload_n dX12_takesCol_7 rfl 0 rfl (nl rfl) ?_
  refine r_get 12 7 (o := a0) (w := (50, h a0 7)) (T := TX12) (ref := "FollowingRefsModel") rfl (by decide) rfl (by decide) inlX12 (wsl_7 _ (List.mem_of_getElem? (i := 9) rfl)) rfl dX12_takesCol_8 rfl ?_
  refine r_iconst dX12_takesCol_11 (by decide) ?_
  refine r_iload_n dX12_takesCol_12 rfl 1 rfl (Or.inl rfl) ?_
  refine r_iadd dX12_takesCol_13 ?_
  obtain ⟨v14, hg14, hr⟩ := bnd hr
  refine r_iald dX12_takesCol_14 hg14 ?_
  obtain ⟨q15, hg15, hr⟩ := bnd hr
  refine k_V (ci := 12) (o := a0) (T := TX12) (as := [(0, w32 (24 + (w32 (4 * a1)))), (0, v14)]) (rest := []) (X := (some (2, q15.1), q15.2)) (oX12_takesName hg15) gX12_takesName rfl (by decide) rfl (wsl_26 _ (List.mem_of_getElem? (i := 9) rfl)) rfl dX12_takesCol_15 rfl ?_
  obtain rfl := Option.some.inj hr
  exact r_ret dX12_takesCol_18 rfl (Or.inr ⟨rfl, rfl⟩) (k0 _ hk) ⟨rfl, rfl⟩
end M_X12_takesCol
theorem oX12_takesCol {l : Launch} {D : va_G} {G : gG} {h : hH} {a0 a1 : Int} {r : Int × hH} (hr : fX12_takesCol h a0 a1 = some r) : Ctr l D G true yX12_takesCol M_X12_takesCol [(22, a0), (0, a1)] h (some (2, r.1), r.2) :=
  Ctr_of (by decide) rfl (fun z => by cases z) (nl rfl) (fun {p e R s m args below meth c A H0} => by
    exact oX12_takesCol_b0 (K := fun z9 => z9 = r) (fun r9 z => by rw [z]) hr rfl)
/-! X12_takesCols -/
theorem dX12_takesCols_0 : decode cX12_takesCols 0 = .ok (.aload_n 0, 1) := by decide +kernel
theorem dX12_takesCols_1 : decode cX12_takesCols 1 = .ok (.iload_n 1, 1) := by decide +kernel
theorem dX12_takesCols_2 : decode cX12_takesCols 2 = .ok (.invokevirtual 273, 3) := by decide +kernel
theorem dX12_takesCols_5 : decode cX12_takesCols 5 = .ok (.ifCond .ne 5, 3) := by decide +kernel
theorem dX12_takesCols_8 : decode cX12_takesCols 8 = .ok (.iconst 0, 1) := by decide +kernel
theorem dX12_takesCols_9 : decode cX12_takesCols 9 = .ok (.ireturn, 1) := by decide +kernel
theorem dX12_takesCols_10 : decode cX12_takesCols 10 = .ok (.aload_n 0, 1) := by decide +kernel
theorem dX12_takesCols_11 : decode cX12_takesCols 11 = .ok (.aload_n 0, 1) := by decide +kernel
theorem dX12_takesCols_12 : decode cX12_takesCols 12 = .ok (.getfield 233, 3) := by decide +kernel
theorem dX12_takesCols_15 : decode cX12_takesCols 15 = .ok (.putfield 276, 3) := by decide +kernel
theorem dX12_takesCols_18 : decode cX12_takesCols 18 = .ok (.aload_n 0, 1) := by decide +kernel
theorem dX12_takesCols_19 : decode cX12_takesCols 19 = .ok (.iconst (-1), 1) := by decide +kernel
theorem dX12_takesCols_20 : decode cX12_takesCols 20 = .ok (.putfield 279, 3) := by decide +kernel
theorem dX12_takesCols_23 : decode cX12_takesCols 23 = .ok (.iload_n 3, 1) := by decide +kernel
theorem dX12_takesCols_24 : decode cX12_takesCols 24 = .ok (.ifCond .ne 27, 3) := by decide +kernel
theorem dX12_takesCols_27 : decode cX12_takesCols 27 = .ok (.iload_n 2, 1) := by decide +kernel
theorem dX12_takesCols_28 : decode cX12_takesCols 28 = .ok (.ifCond .eq 21, 3) := by decide +kernel
theorem dX12_takesCols_31 : decode cX12_takesCols 31 = .ok (.aload_n 0, 1) := by decide +kernel
theorem dX12_takesCols_32 : decode cX12_takesCols 32 = .ok (.getfield 197, 3) := by decide +kernel
theorem dX12_takesCols_35 : decode cX12_takesCols 35 = .ok (.iconst 1, 1) := by decide +kernel
theorem dX12_takesCols_36 : decode cX12_takesCols 36 = .ok (.if_icmp .ne 13, 3) := by decide +kernel
theorem dX12_takesCols_39 : decode cX12_takesCols 39 = .ok (.aload_n 0, 1) := by decide +kernel
theorem dX12_takesCols_40 : decode cX12_takesCols 40 = .ok (.ldc2_w 135, 3) := by decide +kernel
theorem dX12_takesCols_43 : decode cX12_takesCols 43 = .ok (.invokevirtual 248, 3) := by decide +kernel
theorem dX12_takesCols_46 : decode cX12_takesCols 46 = .ok (.ifCond .eq 5, 3) := by decide +kernel
theorem dX12_takesCols_49 : decode cX12_takesCols 49 = .ok (.iconst 1, 1) := by decide +kernel
theorem dX12_takesCols_50 : decode cX12_takesCols 50 = .ok (.ireturn, 1) := by decide +kernel
theorem dX12_takesCols_51 : decode cX12_takesCols 51 = .ok (.aload_n 0, 1) := by decide +kernel
theorem dX12_takesCols_52 : decode cX12_takesCols 52 = .ok (.bipush 24, 2) := by decide +kernel
theorem dX12_takesCols_54 : decode cX12_takesCols 54 = .ok (.iconst 4, 1) := by decide +kernel
theorem dX12_takesCols_55 : decode cX12_takesCols 55 = .ok (.iload_n 1, 1) := by decide +kernel
theorem dX12_takesCols_56 : decode cX12_takesCols 56 = .ok (.imul, 1) := by decide +kernel
theorem dX12_takesCols_57 : decode cX12_takesCols 57 = .ok (.iadd, 1) := by decide +kernel
theorem dX12_takesCols_58 : decode cX12_takesCols 58 = .ok (.aload_n 0, 1) := by decide +kernel
theorem dX12_takesCols_59 : decode cX12_takesCols 59 = .ok (.getfield 37, 3) := by decide +kernel
theorem dX12_takesCols_62 : decode cX12_takesCols 62 = .ok (.iconst 4, 1) := by decide +kernel
theorem dX12_takesCols_63 : decode cX12_takesCols 63 = .ok (.iload_n 1, 1) := by decide +kernel
theorem dX12_takesCols_64 : decode cX12_takesCols 64 = .ok (.iadd, 1) := by decide +kernel
theorem dX12_takesCols_65 : decode cX12_takesCols 65 = .ok (.iaload, 1) := by decide +kernel
theorem dX12_takesCols_66 : decode cX12_takesCols 66 = .ok (.invokevirtual 244, 3) := by decide +kernel
theorem dX12_takesCols_69 : decode cX12_takesCols 69 = .ok (.ifCond .ne 5, 3) := by decide +kernel
theorem dX12_takesCols_72 : decode cX12_takesCols 72 = .ok (.iconst 0, 1) := by decide +kernel
theorem dX12_takesCols_73 : decode cX12_takesCols 73 = .ok (.ireturn, 1) := by decide +kernel
theorem dX12_takesCols_74 : decode cX12_takesCols 74 = .ok (.aload_n 0, 1) := by decide +kernel
theorem dX12_takesCols_75 : decode cX12_takesCols 75 = .ok (.getfield 233, 3) := by decide +kernel
theorem dX12_takesCols_78 : decode cX12_takesCols 78 = .ok (.aload_n 0, 1) := by decide +kernel
theorem dX12_takesCols_79 : decode cX12_takesCols 79 = .ok (.getfield 276, 3) := by decide +kernel
theorem dX12_takesCols_82 : decode cX12_takesCols 82 = .ok (.if_icmp .ne 9, 3) := by decide +kernel
theorem dX12_takesCols_85 : decode cX12_takesCols 85 = .ok (.aload_n 0, 1) := by decide +kernel
theorem dX12_takesCols_86 : decode cX12_takesCols 86 = .ok (.iconst 3, 1) := by decide +kernel
theorem dX12_takesCols_87 : decode cX12_takesCols 87 = .ok (.invokevirtual 223, 3) := by decide +kernel
theorem dX12_takesCols_90 : decode cX12_takesCols 90 = .ok (.ireturn, 1) := by decide +kernel
theorem dX12_takesCols_91 : decode cX12_takesCols 91 = .ok (.aload_n 0, 1) := by decide +kernel
theorem dX12_takesCols_92 : decode cX12_takesCols 92 = .ok (.aload_n 0, 1) := by decide +kernel
theorem dX12_takesCols_93 : decode cX12_takesCols 93 = .ok (.getfield 233, 3) := by decide +kernel
theorem dX12_takesCols_96 : decode cX12_takesCols 96 = .ok (.putfield 279, 3) := by decide +kernel
theorem dX12_takesCols_99 : decode cX12_takesCols 99 = .ok (.aload_n 0, 1) := by decide +kernel
theorem dX12_takesCols_100 : decode cX12_takesCols 100 = .ok (.invokevirtual 226, 3) := by decide +kernel
theorem dX12_takesCols_103 : decode cX12_takesCols 103 = .ok (.iconst 1, 1) := by decide +kernel
theorem dX12_takesCols_104 : decode cX12_takesCols 104 = .ok (.ireturn, 1) := by decide +kernel
abbrev M_X12_takesCols : mM := (cX12_takesCols, 4, RX12, some .boolean, false, 4, 88, 0, 0)
theorem gX12_takesCols : cI yX12_takesCols M_X12_takesCols 3 := ⟨(wsl_26 _ (List.mem_of_getElem? (i := 18) rfl)), (wsl_26 _ (List.mem_of_getElem? (i := 19) rfl)), (wsl_1 _ (List.mem_of_getElem? (i := 5) rfl)), (wsl_26 _ (List.mem_of_getElem? (i := 20) rfl)), by decide +kernel⟩
noncomputable def fX12_takesCols_b51 (h : hH) (a0 a1 : Int) : Option (Int × hH) :=
  (aget h (h a0 7) (w32 (4 + a1))).bind fun v65 =>
  (fX12_looksAt h a0 (w32 (24 + (w32 (4 * a1)))) v65).bind fun q66 =>
  if q66.1 = 0 then
    some (0, q66.2)
  else
    if q66.2 a0 19 = q66.2 a0 21 then
      (fX12_bad q66.2 a0 3).bind fun q87 =>
      some (q87.1, q87.2)
    else
      (pput q66.2 a0 22 (q66.2 a0 19)).bind fun h96 =>
      (fX12_next h96 a0).bind fun h100 =>
      some (1, h100)
noncomputable def fX12_takesCols (h : hH) (a0 a1 a2 a3 : Int) : Option (Int × hH) :=
  (fX12_takesCol h a0 a1).bind fun q2 =>
  if q2.1 = 0 then
    some (0, q2.2)
  else
    (pput q2.2 a0 21 (q2.2 a0 19)).bind fun h15 =>
    (pput h15 a0 22 (-1)).bind fun h20 =>
    if a3 = 0 then
      if a2 = 0 then
        some (1, h20)
      else
        if h20 a0 12 = 1 then
          (fX12_isWord h20 a0 29807).bind fun r43 =>
          if r43 = 0 then
            fX12_takesCols_b51 h20 a0 a1
          else
            some (1, h20)
        else
          some (1, h20)
    else
      fX12_takesCols_b51 h20 a0 a1
section M_X12_takesCols
variable {p : Program} {l : Launch} {e : Env} {R : Room} {s : State} {m : MethodId} {args : Array Value} {below : List Frame} {meth : Method} {c : Code} {D : va_G} {G : gG} {A : Nat → Prop} {H0 : Heap} {n0 : Int} {x : Option vV × hH} {h : hH}
set_option maxRecDepth 100000 in
set_option maxHeartbeats 4000000 in
theorem oX12_takesCols_b51 {a0 a1 : Int} {K : Int × hH → Prop} (k0 : ∀ r, K (r) → x = (some (2, r.1), r.2)) {r : Int × hH} (hr : fX12_takesCols_b51 h a0 a1 = some r) (hk : K r) : Wq p l e R s m args below meth c D G A H0 true n0 M_X12_takesCols x 0 0 51 [(0, (22, a0)), (1, (0, a1))] [] h := by
  unfold fX12_takesCols_b51 at hr
  refine r_aload_n dX12_takesCols_51 rfl 0 rfl (nl rfl) ?_
  refine r_bipush dX12_takesCols_52 (by decide) (by decide) ?_
  refine r_iconst dX12_takesCols_54 (by decide) ?_
  refine r_iload_n dX12_takesCols_55 rfl 1 rfl (Or.inl rfl) ?_
  refine r_imul dX12_takesCols_56 ?_
  refine r_iadd dX12_takesCols_57 ?_
  refine r_aload_n dX12_takesCols_58 rfl 0 rfl (nl rfl) ?_
  refine r_get 12 7 (o := a0) (w := (50, h a0 7)) (T := TX12) (ref := "FollowingRefsModel") rfl (by decide) rfl (by decide) inlX12 (wsl_7 _ (List.mem_of_getElem? (i := 9) rfl)) rfl dX12_takesCols_59 rfl ?_
  refine r_iconst dX12_takesCols_62 (by decide) ?_
  refine r_iload_n dX12_takesCols_63 rfl 1 rfl (Or.inl rfl) ?_
  refine r_iadd dX12_takesCols_64 ?_
  obtain ⟨v65, hg65, hr⟩ := bnd hr
  refine r_iald dX12_takesCols_65 hg65 ?_
  obtain ⟨q66, hg66, hr⟩ := bnd hr
  refine k_V (ci := 12) (o := a0) (T := TX12) (as := [(0, w32 (24 + (w32 (4 * a1)))), (0, v65)]) (rest := []) (X := (some (2, q66.1), q66.2)) (oX12_looksAt hg66) gX12_looksAt rfl (by decide) rfl (wsl_26 _ (List.mem_of_getElem? (i := 13) rfl)) rfl dX12_takesCols_66 rfl ?_
  refine r_scast 0 (v := (2, q66.1)) (w := (0, q66.1)) rfl zc hTz (st' := [(0, q66.1)]) rfl ?_
  refine r_if_ne dX12_takesCols_69 (tgt := 74) (by decide) (fun hc => ?_) (fun hc => ?_)
  · have hr := ifn hr hc
    refine r_aload_n dX12_takesCols_74 rfl 0 rfl (nl rfl) ?_
    refine r_get 12 19 (o := a0) (w := (0, q66.2 a0 19)) (T := TX12) (ref := "FollowingRefsModel") rfl (by decide) rfl (by decide) inlX12 (wsl_26 _ (List.mem_of_getElem? (i := 2) rfl)) rfl dX12_takesCols_75 rfl ?_
    refine r_aload_n dX12_takesCols_78 rfl 0 rfl (nl rfl) ?_
    refine r_get 12 21 (o := a0) (w := (0, q66.2 a0 21)) (T := TX12) (ref := "FollowingRefsModel") rfl (by decide) rfl (by decide) inlX12 (wsl_26 _ (List.mem_of_getElem? (i := 3) rfl)) rfl dX12_takesCols_79 rfl ?_
    refine r_icmp_ne dX12_takesCols_82 (tgt := 91) (by decide) (fun hc => ?_) (fun hc => ?_)
    · have hr := ifn hr hc
      refine r_aload_n dX12_takesCols_91 rfl 0 rfl (nl rfl) ?_
      refine r_aload_n dX12_takesCols_92 rfl 0 rfl (nl rfl) ?_
      refine r_get 12 19 (o := a0) (w := (0, q66.2 a0 19)) (T := TX12) (ref := "FollowingRefsModel") rfl (by decide) rfl (by decide) inlX12 (wsl_26 _ (List.mem_of_getElem? (i := 2) rfl)) rfl dX12_takesCols_93 rfl ?_
      obtain ⟨h96, hg96, hr⟩ := bnd hr
      refine r_put' 12 22 (t := 0) (ref := "FollowingRefsModel") hg96 rfl tyX12 tyX12_ok nmX12 rfl (by decide) rfl (by decide) inlX12 (wsl_26 _ (List.mem_of_getElem? (i := 4) rfl)) rfl rfl (by decide +kernel) (by decide) rfl (Or.inl ⟨rfl, rfl⟩) dX12_takesCols_96 ?_
      refine r_aload_n dX12_takesCols_99 rfl 0 rfl (nl rfl) ?_
      obtain ⟨h100, hg100, hr⟩ := bnd hr
      refine k_V (ci := 12) (o := a0) (T := TX12) (as := []) (rest := []) (X := (none, h100)) (oX12_next hg100) gX12_next rfl (by decide) rfl (wsl_24 _ (List.mem_of_getElem? (i := 0) rfl)) rfl dX12_takesCols_100 rfl ?_
      refine r_iconst dX12_takesCols_103 (by decide) ?_
      refine r_scast 0 (v := (0, 1)) (w := (2, 1)) rfl cz (fun _ => Or.inr rfl) (st' := [(2, 1)]) rfl ?_
      obtain rfl := Option.some.inj hr
      exact r_ret dX12_takesCols_104 rfl (Or.inr ⟨rfl, rfl⟩) (k0 _ hk) ⟨rfl, rfl⟩
    · have hr := ifp hr hc
      refine r_aload_n dX12_takesCols_85 rfl 0 rfl (nl rfl) ?_
      refine r_iconst dX12_takesCols_86 (by decide) ?_
      obtain ⟨q87, hg87, hr⟩ := bnd hr
      refine k_V (ci := 12) (o := a0) (T := TX12) (as := [(0, 3)]) (rest := []) (X := (some (2, q87.1), q87.2)) (oX12_bad hg87) gX12_bad rfl (by decide) rfl (wsl_25 _ (List.mem_of_getElem? (i := 6) rfl)) rfl dX12_takesCols_87 rfl ?_
      obtain rfl := Option.some.inj hr
      exact r_ret dX12_takesCols_90 rfl (Or.inr ⟨rfl, rfl⟩) (k0 _ hk) ⟨rfl, rfl⟩
  · have hr := ifp hr hc
    refine r_iconst dX12_takesCols_72 (by decide) ?_
    refine r_scast 0 (v := (0, 0)) (w := (2, 0)) rfl cz (fun _ => Or.inl rfl) (st' := [(2, 0)]) rfl ?_
    obtain rfl := Option.some.inj hr
    exact r_ret dX12_takesCols_73 rfl (Or.inr ⟨rfl, rfl⟩) (k0 _ hk) ⟨rfl, rfl⟩
set_option maxRecDepth 100000 in
set_option maxHeartbeats 4000000 in
theorem oX12_takesCols_b0 {a0 a1 a2 a3 : Int} {K : Int × hH → Prop} (k0 : ∀ r, K (r) → x = (some (2, r.1), r.2)) {r : Int × hH} (hr : fX12_takesCols h a0 a1 a2 a3 = some r) (hk : K r) : Wq p l e R s m args below meth c D G A H0 true n0 M_X12_takesCols x 0 0 0 [(0, (22, a0)), (1, (0, a1)), (2, (2, a2)), (3, (2, a3))] [] h := by
  unfold fX12_takesCols at hr
  refine r_aload_n dX12_takesCols_0 rfl 0 rfl (nl rfl) ?_
  refine r_iload_n dX12_takesCols_1 rfl 1 rfl (Or.inl rfl) ?_
  obtain ⟨q2, hg2, hr⟩ := bnd hr
  refine k_V (ci := 12) (o := a0) (T := TX12) (as := [(0, a1)]) (rest := []) (X := (some (2, q2.1), q2.2)) (oX12_takesCol hg2) gX12_takesCol rfl (by decide) rfl (wsl_26 _ (List.mem_of_getElem? (i := 21) rfl)) rfl dX12_takesCols_2 rfl ?_
  refine r_scast 0 (v := (2, q2.1)) (w := (0, q2.1)) rfl zc hTz (st' := [(0, q2.1)]) rfl ?_
  refine r_if_ne dX12_takesCols_5 (tgt := 10) (by decide) (fun hc => ?_) (fun hc => ?_)
  · have hr := ifn hr hc
    refine r_aload_n dX12_takesCols_10 rfl 0 rfl (nl rfl) ?_
    refine r_aload_n dX12_takesCols_11 rfl 0 rfl (nl rfl) ?_
    refine r_get 12 19 (o := a0) (w := (0, q2.2 a0 19)) (T := TX12) (ref := "FollowingRefsModel") rfl (by decide) rfl (by decide) inlX12 (wsl_26 _ (List.mem_of_getElem? (i := 2) rfl)) rfl dX12_takesCols_12 rfl ?_
    obtain ⟨h15, hg15, hr⟩ := bnd hr
    refine r_put' 12 21 (t := 0) (ref := "FollowingRefsModel") hg15 rfl tyX12 tyX12_ok nmX12 rfl (by decide) rfl (by decide) inlX12 (wsl_26 _ (List.mem_of_getElem? (i := 3) rfl)) rfl rfl (by decide +kernel) (by decide) rfl (Or.inl ⟨rfl, rfl⟩) dX12_takesCols_15 ?_
    refine r_aload_n dX12_takesCols_18 rfl 0 rfl (nl rfl) ?_
    refine r_iconst dX12_takesCols_19 (by decide) ?_
    obtain ⟨h20, hg20, hr⟩ := bnd hr
    refine r_put' 12 22 (t := 0) (ref := "FollowingRefsModel") hg20 rfl tyX12 tyX12_ok nmX12 rfl (by decide) rfl (by decide) inlX12 (wsl_26 _ (List.mem_of_getElem? (i := 4) rfl)) rfl rfl (by decide +kernel) (by decide) rfl (Or.inl ⟨rfl, rfl⟩) dX12_takesCols_20 ?_
    refine r_iload_n dX12_takesCols_23 rfl 3 rfl (Or.inr rfl) ?_
    refine r_scast 0 (v := (2, a3)) (w := (0, a3)) rfl zc hTz (st' := [(0, a3)]) rfl ?_
    refine r_if_ne dX12_takesCols_24 (tgt := 51) (by decide) (fun hc => ?_) (fun hc => ?_)
    · have hr := ifn hr hc
      refine r_sub [0, 1] (lv' := [(0, (22, a0)), (1, (0, a1))]) rfl ?_
      exact oX12_takesCols_b51 (K := K) (fun r z => k0 r z) hr hk
    · have hr := ifp hr hc
      refine r_iload_n dX12_takesCols_27 rfl 2 rfl (Or.inr rfl) ?_
      refine r_scast 0 (v := (2, a2)) (w := (0, a2)) rfl zc hTz (st' := [(0, a2)]) rfl ?_
      refine r_if_eq dX12_takesCols_28 (tgt := 49) (by decide) (fun hc => ?_) (fun hc => ?_)
      · have hr := ifp hr hc
        refine r_iconst dX12_takesCols_49 (by decide) ?_
        refine r_scast 0 (v := (0, 1)) (w := (2, 1)) rfl cz (fun _ => Or.inr rfl) (st' := [(2, 1)]) rfl ?_
        obtain rfl := Option.some.inj hr
        exact r_ret dX12_takesCols_50 rfl (Or.inr ⟨rfl, rfl⟩) (k0 _ hk) ⟨rfl, rfl⟩
      · have hr := ifn hr hc
        refine r_aload_n dX12_takesCols_31 rfl 0 rfl (nl rfl) ?_
        refine r_get 12 12 (o := a0) (w := (0, h20 a0 12)) (T := TX12) (ref := "FollowingRefsModel") rfl (by decide) rfl (by decide) inlX12 (wsl_23 _ (List.mem_of_getElem? (i := 14) rfl)) rfl dX12_takesCols_32 rfl ?_
        refine r_iconst dX12_takesCols_35 (by decide) ?_
        refine r_icmp_ne dX12_takesCols_36 (tgt := 49) (by decide) (fun hc => ?_) (fun hc => ?_)
        · have hr := ifn hr hc
          refine r_iconst dX12_takesCols_49 (by decide) ?_
          refine r_scast 0 (v := (0, 1)) (w := (2, 1)) rfl cz (fun _ => Or.inr rfl) (st' := [(2, 1)]) rfl ?_
          obtain rfl := Option.some.inj hr
          exact r_ret dX12_takesCols_50 rfl (Or.inr ⟨rfl, rfl⟩) (k0 _ hk) ⟨rfl, rfl⟩
        · have hr := ifp hr hc
          refine r_aload_n dX12_takesCols_39 rfl 0 rfl (nl rfl) ?_
          refine r_ldc2' (v := 29807) dX12_takesCols_40 (by decide) (wsl_8 _ (List.mem_of_getElem? (i := 19) rfl)) ?_
          obtain ⟨r43, hg43, hr⟩ := bnd hr
          refine k_V (ci := 12) (o := a0) (T := TX12) (as := [(1, 29807)]) (rest := []) (X := (some (2, r43), h20)) (oX12_isWord hg43) gX12_isWord rfl (by decide) rfl (wsl_24 _ (List.mem_of_getElem? (i := 22) rfl)) rfl dX12_takesCols_43 rfl ?_
          refine r_scast 0 (v := (2, r43)) (w := (0, r43)) rfl zc hTz (st' := [(0, r43)]) rfl ?_
          refine r_if_eq dX12_takesCols_46 (tgt := 51) (by decide) (fun hc => ?_) (fun hc => ?_)
          · have hr := ifp hr hc
            refine r_sub [0, 1] (lv' := [(0, (22, a0)), (1, (0, a1))]) rfl ?_
            exact oX12_takesCols_b51 (K := K) (fun r z => k0 r z) hr hk
          · have hr := ifn hr hc
            refine r_iconst dX12_takesCols_49 (by decide) ?_
            refine r_scast 0 (v := (0, 1)) (w := (2, 1)) rfl cz (fun _ => Or.inr rfl) (st' := [(2, 1)]) rfl ?_
            obtain rfl := Option.some.inj hr
            exact r_ret dX12_takesCols_50 rfl (Or.inr ⟨rfl, rfl⟩) (k0 _ hk) ⟨rfl, rfl⟩
  · have hr := ifp hr hc
    refine r_iconst dX12_takesCols_8 (by decide) ?_
    refine r_scast 0 (v := (0, 0)) (w := (2, 0)) rfl cz (fun _ => Or.inl rfl) (st' := [(2, 0)]) rfl ?_
    obtain rfl := Option.some.inj hr
    exact r_ret dX12_takesCols_9 rfl (Or.inr ⟨rfl, rfl⟩) (k0 _ hk) ⟨rfl, rfl⟩
end M_X12_takesCols
theorem oX12_takesCols {l : Launch} {D : va_G} {G : gG} {h : hH} {a0 a1 a2 a3 : Int} {r : Int × hH} (hr : fX12_takesCols h a0 a1 a2 a3 = some r) : Ctr l D G true yX12_takesCols M_X12_takesCols [(22, a0), (0, a1), (2, a2), (2, a3)] h (some (2, r.1), r.2) :=
  Ctr_of (by decide) rfl (fun z => by cases z) (nl rfl) (fun {p e R s m args below meth c A H0} => by
    exact oX12_takesCols_b0 (K := fun z9 => z9 = r) (fun r9 z => by rw [z]) hr rfl)
/-! X12_readKey -/
theorem dX12_readKey_0 : decode cX12_readKey 0 = .ok (.aload_n 0, 1) := by decide +kernel
theorem dX12_readKey_1 : decode cX12_readKey 1 = .ok (.getfield 37, 3) := by decide +kernel
theorem dX12_readKey_4 : decode cX12_readKey 4 = .ok (.iconst 1, 1) := by decide +kernel
theorem dX12_readKey_5 : decode cX12_readKey 5 = .ok (.iaload, 1) := by decide +kernel
theorem dX12_readKey_6 : decode cX12_readKey 6 = .ok (.istore_n 1, 1) := by decide +kernel
theorem dX12_readKey_7 : decode cX12_readKey 7 = .ok (.aload_n 0, 1) := by decide +kernel
theorem dX12_readKey_8 : decode cX12_readKey 8 = .ok (.invokevirtual 226, 3) := by decide +kernel
theorem dX12_readKey_11 : decode cX12_readKey 11 = .ok (.aload_n 0, 1) := by decide +kernel
theorem dX12_readKey_12 : decode cX12_readKey 12 = .ok (.invokevirtual 282, 3) := by decide +kernel
theorem dX12_readKey_15 : decode cX12_readKey 15 = .ok (.ifCond .ne 5, 3) := by decide +kernel
theorem dX12_readKey_18 : decode cX12_readKey 18 = .ok (.iconst 0, 1) := by decide +kernel
theorem dX12_readKey_19 : decode cX12_readKey 19 = .ok (.ireturn, 1) := by decide +kernel
theorem dX12_readKey_20 : decode cX12_readKey 20 = .ok (.aload_n 0, 1) := by decide +kernel
theorem dX12_readKey_21 : decode cX12_readKey 21 = .ok (.getfield 233, 3) := by decide +kernel
theorem dX12_readKey_24 : decode cX12_readKey 24 = .ok (.istore_n 2, 1) := by decide +kernel
theorem dX12_readKey_25 : decode cX12_readKey 25 = .ok (.aload_n 0, 1) := by decide +kernel
theorem dX12_readKey_26 : decode cX12_readKey 26 = .ok (.iload_n 2, 1) := by decide +kernel
theorem dX12_readKey_27 : decode cX12_readKey 27 = .ok (.iconst 1, 1) := by decide +kernel
theorem dX12_readKey_28 : decode cX12_readKey 28 = .ok (.iconst 0, 1) := by decide +kernel
theorem dX12_readKey_29 : decode cX12_readKey 29 = .ok (.invokevirtual 285, 3) := by decide +kernel
theorem dX12_readKey_32 : decode cX12_readKey 32 = .ok (.ifCond .ne 5, 3) := by decide +kernel
theorem dX12_readKey_35 : decode cX12_readKey 35 = .ok (.iconst 0, 1) := by decide +kernel
theorem dX12_readKey_36 : decode cX12_readKey 36 = .ok (.ireturn, 1) := by decide +kernel
theorem dX12_readKey_37 : decode cX12_readKey 37 = .ok (.aload_n 0, 1) := by decide +kernel
theorem dX12_readKey_38 : decode cX12_readKey 38 = .ok (.getfield 37, 3) := by decide +kernel
theorem dX12_readKey_41 : decode cX12_readKey 41 = .ok (.bipush 40, 2) := by decide +kernel
theorem dX12_readKey_43 : decode cX12_readKey 43 = .ok (.iload_n 1, 1) := by decide +kernel
theorem dX12_readKey_44 : decode cX12_readKey 44 = .ok (.iadd, 1) := by decide +kernel
theorem dX12_readKey_45 : decode cX12_readKey 45 = .ok (.iload_n 2, 1) := by decide +kernel
theorem dX12_readKey_46 : decode cX12_readKey 46 = .ok (.iastore, 1) := by decide +kernel
theorem dX12_readKey_47 : decode cX12_readKey 47 = .ok (.aload_n 0, 1) := by decide +kernel
theorem dX12_readKey_48 : decode cX12_readKey 48 = .ok (.getfield 37, 3) := by decide +kernel
theorem dX12_readKey_51 : decode cX12_readKey 51 = .ok (.bipush 46, 2) := by decide +kernel
theorem dX12_readKey_53 : decode cX12_readKey 53 = .ok (.iload_n 1, 1) := by decide +kernel
theorem dX12_readKey_54 : decode cX12_readKey 54 = .ok (.iadd, 1) := by decide +kernel
theorem dX12_readKey_55 : decode cX12_readKey 55 = .ok (.aload_n 0, 1) := by decide +kernel
theorem dX12_readKey_56 : decode cX12_readKey 56 = .ok (.getfield 276, 3) := by decide +kernel
theorem dX12_readKey_59 : decode cX12_readKey 59 = .ok (.iastore, 1) := by decide +kernel
theorem dX12_readKey_60 : decode cX12_readKey 60 = .ok (.aload_n 0, 1) := by decide +kernel
theorem dX12_readKey_61 : decode cX12_readKey 61 = .ok (.getfield 37, 3) := by decide +kernel
theorem dX12_readKey_64 : decode cX12_readKey 64 = .ok (.bipush 52, 2) := by decide +kernel
theorem dX12_readKey_66 : decode cX12_readKey 66 = .ok (.iload_n 1, 1) := by decide +kernel
theorem dX12_readKey_67 : decode cX12_readKey 67 = .ok (.iadd, 1) := by decide +kernel
theorem dX12_readKey_68 : decode cX12_readKey 68 = .ok (.aload_n 0, 1) := by decide +kernel
theorem dX12_readKey_69 : decode cX12_readKey 69 = .ok (.getfield 279, 3) := by decide +kernel
theorem dX12_readKey_72 : decode cX12_readKey 72 = .ok (.iastore, 1) := by decide +kernel
theorem dX12_readKey_73 : decode cX12_readKey 73 = .ok (.aload_n 0, 1) := by decide +kernel
theorem dX12_readKey_74 : decode cX12_readKey 74 = .ok (.getfield 37, 3) := by decide +kernel
theorem dX12_readKey_77 : decode cX12_readKey 77 = .ok (.iconst 1, 1) := by decide +kernel
theorem dX12_readKey_78 : decode cX12_readKey 78 = .ok (.dup2, 1) := by decide +kernel
theorem dX12_readKey_79 : decode cX12_readKey 79 = .ok (.iaload, 1) := by decide +kernel
theorem dX12_readKey_80 : decode cX12_readKey 80 = .ok (.iconst 1, 1) := by decide +kernel
theorem dX12_readKey_81 : decode cX12_readKey 81 = .ok (.iadd, 1) := by decide +kernel
theorem dX12_readKey_82 : decode cX12_readKey 82 = .ok (.iastore, 1) := by decide +kernel
theorem dX12_readKey_83 : decode cX12_readKey 83 = .ok (.iconst 1, 1) := by decide +kernel
theorem dX12_readKey_84 : decode cX12_readKey 84 = .ok (.ireturn, 1) := by decide +kernel
abbrev M_X12_readKey : mM := (cX12_readKey, 3, RX12, some .boolean, false, 5, 111, 0, 0)
theorem gX12_readKey : cI yX12_readKey M_X12_readKey 0 := ⟨(wsl_25 _ (List.mem_of_getElem? (i := 23) rfl)), (wsl_26 _ (List.mem_of_getElem? (i := 0) rfl)), (wsl_1 _ (List.mem_of_getElem? (i := 5) rfl)), (wsl_26 _ (List.mem_of_getElem? (i := 1) rfl)), by decide +kernel⟩
noncomputable def fX12_readKey (h : hH) (a0 : Int) : Option (Int × hH) :=
  (aget h (h a0 7) 1).bind fun v5 =>
  (fX12_next h a0).bind fun h8 =>
  (fX12_takesTable h8 a0).bind fun q12 =>
  if q12.1 = 0 then
    some (0, q12.2)
  else
    (fX12_takesCols q12.2 a0 (q12.2 a0 19) 1 0).bind fun q29 =>
    if q29.1 = 0 then
      some (0, q29.2)
    else
      (aput q29.2 (q29.2 a0 7) (w32 (40 + v5)) (q12.2 a0 19)).bind fun h46 =>
      (aput h46 (h46 a0 7) (w32 (46 + v5)) (h46 a0 21)).bind fun h59 =>
      (aput h59 (h59 a0 7) (w32 (52 + v5)) (h59 a0 22)).bind fun h72 =>
      (aget h72 (h72 a0 7) 1).bind fun v79 =>
      (aput h72 (h72 a0 7) 1 (w32 (v79 + 1))).bind fun h82 =>
      some (1, h82)
section M_X12_readKey
variable {p : Program} {l : Launch} {e : Env} {R : Room} {s : State} {m : MethodId} {args : Array Value} {below : List Frame} {meth : Method} {c : Code} {D : va_G} {G : gG} {A : Nat → Prop} {H0 : Heap} {n0 : Int} {x : Option vV × hH} {h : hH}
set_option maxRecDepth 100000 in
set_option maxHeartbeats 4000000 in
theorem oX12_readKey_b0 {a0 : Int} {K : Int × hH → Prop} (k0 : ∀ r, K (r) → x = (some (2, r.1), r.2)) {r : Int × hH} (hr : fX12_readKey h a0 = some r) (hk : K r) : Wq p l e R s m args below meth c D G A H0 true n0 M_X12_readKey x 0 0 0 [(0, (22, a0))] [] h := by
  unfold fX12_readKey at hr
  refine r_aload_n dX12_readKey_0 rfl 0 rfl (nl rfl) ?_
  refine r_get 12 7 (o := a0) (w := (50, h a0 7)) (T := TX12) (ref := "FollowingRefsModel") rfl (by decide) rfl (by decide) inlX12 (wsl_7 _ (List.mem_of_getElem? (i := 9) rfl)) rfl dX12_readKey_1 rfl ?_
  refine r_iconst dX12_readKey_4 (by decide) ?_
  obtain ⟨v5, hg5, hr⟩ := bnd hr
  refine r_iald dX12_readKey_5 hg5 ?_
  refine r_istore_n dX12_readKey_6 rfl (Or.inl rfl) (by decide) (lv' := [(1, (0, v5)), (0, (22, a0))]) rfl ?_
  refine r_aload_n dX12_readKey_7 rfl 1 rfl (nl rfl) ?_
  obtain ⟨h8, hg8, hr⟩ := bnd hr
  refine k_V (ci := 12) (o := a0) (T := TX12) (as := []) (rest := []) (X := (none, h8)) (oX12_next hg8) gX12_next rfl (by decide) rfl (wsl_24 _ (List.mem_of_getElem? (i := 0) rfl)) rfl dX12_readKey_8 rfl ?_
  refine r_aload_n dX12_readKey_11 rfl 1 rfl (nl rfl) ?_
  obtain ⟨q12, hg12, hr⟩ := bnd hr
  refine k_V (ci := 12) (o := a0) (T := TX12) (as := []) (rest := []) (X := (some (2, q12.1), q12.2)) (oX12_takesTable hg12) gX12_takesTable rfl (by decide) rfl (wsl_26 _ (List.mem_of_getElem? (i := 5) rfl)) rfl dX12_readKey_12 rfl ?_
  refine r_scast 0 (v := (2, q12.1)) (w := (0, q12.1)) rfl zc hTz (st' := [(0, q12.1)]) rfl ?_
  refine r_if_ne dX12_readKey_15 (tgt := 20) (by decide) (fun hc => ?_) (fun hc => ?_)
  · have hr := ifn hr hc
    refine r_aload_n dX12_readKey_20 rfl 1 rfl (nl rfl) ?_
    refine r_get 12 19 (o := a0) (w := (0, q12.2 a0 19)) (T := TX12) (ref := "FollowingRefsModel") rfl (by decide) rfl (by decide) inlX12 (wsl_26 _ (List.mem_of_getElem? (i := 2) rfl)) rfl dX12_readKey_21 rfl ?_
    refine r_istore_n dX12_readKey_24 rfl (Or.inl rfl) (by decide) (lv' := [(2, (0, q12.2 a0 19)), (1, (0, v5)), (0, (22, a0))]) rfl ?_
    refine r_aload_n dX12_readKey_25 rfl 2 rfl (nl rfl) ?_
    refine r_iload_n dX12_readKey_26 rfl 0 rfl (Or.inl rfl) ?_
    refine r_iconst dX12_readKey_27 (by decide) ?_
    refine r_iconst dX12_readKey_28 (by decide) ?_
    refine r_scast 1 (v := (0, 1)) (w := (2, 1)) rfl cz (fun _ => Or.inr rfl) (st' := [(0, 0), (2, 1), (0, q12.2 a0 19), (22, a0)]) rfl ?_
    refine r_scast 0 (v := (0, 0)) (w := (2, 0)) rfl cz (fun _ => Or.inl rfl) (st' := [(2, 0), (2, 1), (0, q12.2 a0 19), (22, a0)]) rfl ?_
    obtain ⟨q29, hg29, hr⟩ := bnd hr
    refine k_V (ci := 12) (o := a0) (T := TX12) (as := [(0, q12.2 a0 19), (2, 1), (2, 0)]) (rest := []) (X := (some (2, q29.1), q29.2)) (oX12_takesCols hg29) gX12_takesCols rfl (by decide) rfl (wsl_26 _ (List.mem_of_getElem? (i := 17) rfl)) rfl dX12_readKey_29 rfl ?_
    refine r_scast 0 (v := (2, q29.1)) (w := (0, q29.1)) rfl zc hTz (st' := [(0, q29.1)]) rfl ?_
    refine r_if_ne dX12_readKey_32 (tgt := 37) (by decide) (fun hc => ?_) (fun hc => ?_)
    · have hr := ifn hr hc
      refine r_aload_n dX12_readKey_37 rfl 2 rfl (nl rfl) ?_
      refine r_get 12 7 (o := a0) (w := (50, q29.2 a0 7)) (T := TX12) (ref := "FollowingRefsModel") rfl (by decide) rfl (by decide) inlX12 (wsl_7 _ (List.mem_of_getElem? (i := 9) rfl)) rfl dX12_readKey_38 rfl ?_
      refine r_bipush dX12_readKey_41 (by decide) (by decide) ?_
      refine r_iload_n dX12_readKey_43 rfl 1 rfl (Or.inl rfl) ?_
      refine r_iadd dX12_readKey_44 ?_
      refine r_iload_n dX12_readKey_45 rfl 0 rfl (Or.inl rfl) ?_
      obtain ⟨h46, hg46, hr⟩ := bnd hr
      refine r_iast dX12_readKey_46 hg46 ?_
      refine r_aload_n dX12_readKey_47 rfl 2 rfl (nl rfl) ?_
      refine r_get 12 7 (o := a0) (w := (50, h46 a0 7)) (T := TX12) (ref := "FollowingRefsModel") rfl (by decide) rfl (by decide) inlX12 (wsl_7 _ (List.mem_of_getElem? (i := 9) rfl)) rfl dX12_readKey_48 rfl ?_
      refine r_bipush dX12_readKey_51 (by decide) (by decide) ?_
      refine r_iload_n dX12_readKey_53 rfl 1 rfl (Or.inl rfl) ?_
      refine r_iadd dX12_readKey_54 ?_
      refine r_aload_n dX12_readKey_55 rfl 2 rfl (nl rfl) ?_
      refine r_get 12 21 (o := a0) (w := (0, h46 a0 21)) (T := TX12) (ref := "FollowingRefsModel") rfl (by decide) rfl (by decide) inlX12 (wsl_26 _ (List.mem_of_getElem? (i := 3) rfl)) rfl dX12_readKey_56 rfl ?_
      obtain ⟨h59, hg59, hr⟩ := bnd hr
      refine r_iast dX12_readKey_59 hg59 ?_
      refine r_aload_n dX12_readKey_60 rfl 2 rfl (nl rfl) ?_
      refine r_get 12 7 (o := a0) (w := (50, h59 a0 7)) (T := TX12) (ref := "FollowingRefsModel") rfl (by decide) rfl (by decide) inlX12 (wsl_7 _ (List.mem_of_getElem? (i := 9) rfl)) rfl dX12_readKey_61 rfl ?_
      refine r_bipush dX12_readKey_64 (by decide) (by decide) ?_
      refine r_iload_n dX12_readKey_66 rfl 1 rfl (Or.inl rfl) ?_
      refine r_iadd dX12_readKey_67 ?_
      refine r_aload_n dX12_readKey_68 rfl 2 rfl (nl rfl) ?_
      refine r_get 12 22 (o := a0) (w := (0, h59 a0 22)) (T := TX12) (ref := "FollowingRefsModel") rfl (by decide) rfl (by decide) inlX12 (wsl_26 _ (List.mem_of_getElem? (i := 4) rfl)) rfl dX12_readKey_69 rfl ?_
      obtain ⟨h72, hg72, hr⟩ := bnd hr
      refine r_iast dX12_readKey_72 hg72 ?_
      refine r_aload_n dX12_readKey_73 rfl 2 rfl (nl rfl) ?_
      refine r_get 12 7 (o := a0) (w := (50, h72 a0 7)) (T := TX12) (ref := "FollowingRefsModel") rfl (by decide) rfl (by decide) inlX12 (wsl_7 _ (List.mem_of_getElem? (i := 9) rfl)) rfl dX12_readKey_74 rfl ?_
      refine r_iconst dX12_readKey_77 (by decide) ?_
      refine r_dup2 dX12_readKey_78 (Nat.ne_of_beq_eq_false rfl) (Nat.ne_of_beq_eq_false rfl) ?_
      obtain ⟨v79, hg79, hr⟩ := bnd hr
      refine r_iald dX12_readKey_79 hg79 ?_
      refine r_iconst dX12_readKey_80 (by decide) ?_
      refine r_iadd dX12_readKey_81 ?_
      obtain ⟨h82, hg82, hr⟩ := bnd hr
      refine r_iast dX12_readKey_82 hg82 ?_
      refine r_iconst dX12_readKey_83 (by decide) ?_
      refine r_scast 0 (v := (0, 1)) (w := (2, 1)) rfl cz (fun _ => Or.inr rfl) (st' := [(2, 1)]) rfl ?_
      obtain rfl := Option.some.inj hr
      exact r_ret dX12_readKey_84 rfl (Or.inr ⟨rfl, rfl⟩) (k0 _ hk) ⟨rfl, rfl⟩
    · have hr := ifp hr hc
      refine r_iconst dX12_readKey_35 (by decide) ?_
      refine r_scast 0 (v := (0, 0)) (w := (2, 0)) rfl cz (fun _ => Or.inl rfl) (st' := [(2, 0)]) rfl ?_
      obtain rfl := Option.some.inj hr
      exact r_ret dX12_readKey_36 rfl (Or.inr ⟨rfl, rfl⟩) (k0 _ hk) ⟨rfl, rfl⟩
  · have hr := ifp hr hc
    refine r_iconst dX12_readKey_18 (by decide) ?_
    refine r_scast 0 (v := (0, 0)) (w := (2, 0)) rfl cz (fun _ => Or.inl rfl) (st' := [(2, 0)]) rfl ?_
    obtain rfl := Option.some.inj hr
    exact r_ret dX12_readKey_19 rfl (Or.inr ⟨rfl, rfl⟩) (k0 _ hk) ⟨rfl, rfl⟩
end M_X12_readKey
theorem oX12_readKey {l : Launch} {D : va_G} {G : gG} {h : hH} {a0 : Int} {r : Int × hH} (hr : fX12_readKey h a0 = some r) : Ctr l D G true yX12_readKey M_X12_readKey [(22, a0)] h (some (2, r.1), r.2) :=
  Ctr_of (by decide) rfl (fun z => by cases z) (nl rfl) (fun {p e R s m args below meth c A H0} => by
    exact oX12_readKey_b0 (K := fun z9 => z9 = r) (fun r9 z => by rw [z]) hr rfl)
/-! X12_keyOf -/
theorem dX12_keyOf_0 : decode cX12_keyOf 0 = .ok (.iconst 0, 1) := by decide +kernel
theorem dX12_keyOf_1 : decode cX12_keyOf 1 = .ok (.istore 4, 2) := by decide +kernel
theorem dX12_keyOf_3 : decode cX12_keyOf 3 = .ok (.iload 4, 2) := by decide +kernel
theorem dX12_keyOf_5 : decode cX12_keyOf 5 = .ok (.aload_n 0, 1) := by decide +kernel
theorem dX12_keyOf_6 : decode cX12_keyOf 6 = .ok (.getfield 37, 3) := by decide +kernel
theorem dX12_keyOf_9 : decode cX12_keyOf 9 = .ok (.iconst 1, 1) := by decide +kernel
theorem dX12_keyOf_10 : decode cX12_keyOf 10 = .ok (.iaload, 1) := by decide +kernel
theorem dX12_keyOf_11 : decode cX12_keyOf 11 = .ok (.if_icmp .ge 54, 3) := by decide +kernel
theorem dX12_keyOf_14 : decode cX12_keyOf 14 = .ok (.aload_n 0, 1) := by decide +kernel
theorem dX12_keyOf_15 : decode cX12_keyOf 15 = .ok (.getfield 37, 3) := by decide +kernel
theorem dX12_keyOf_18 : decode cX12_keyOf 18 = .ok (.bipush 40, 2) := by decide +kernel
theorem dX12_keyOf_20 : decode cX12_keyOf 20 = .ok (.iload 4, 2) := by decide +kernel
theorem dX12_keyOf_22 : decode cX12_keyOf 22 = .ok (.iadd, 1) := by decide +kernel
theorem dX12_keyOf_23 : decode cX12_keyOf 23 = .ok (.iaload, 1) := by decide +kernel
theorem dX12_keyOf_24 : decode cX12_keyOf 24 = .ok (.iload_n 1, 1) := by decide +kernel
theorem dX12_keyOf_25 : decode cX12_keyOf 25 = .ok (.if_icmp .ne 34, 3) := by decide +kernel
theorem dX12_keyOf_28 : decode cX12_keyOf 28 = .ok (.aload_n 0, 1) := by decide +kernel
theorem dX12_keyOf_29 : decode cX12_keyOf 29 = .ok (.getfield 37, 3) := by decide +kernel
theorem dX12_keyOf_32 : decode cX12_keyOf 32 = .ok (.bipush 46, 2) := by decide +kernel
theorem dX12_keyOf_34 : decode cX12_keyOf 34 = .ok (.iload 4, 2) := by decide +kernel
theorem dX12_keyOf_36 : decode cX12_keyOf 36 = .ok (.iadd, 1) := by decide +kernel
theorem dX12_keyOf_37 : decode cX12_keyOf 37 = .ok (.iaload, 1) := by decide +kernel
theorem dX12_keyOf_38 : decode cX12_keyOf 38 = .ok (.iload_n 2, 1) := by decide +kernel
theorem dX12_keyOf_39 : decode cX12_keyOf 39 = .ok (.if_icmp .ne 20, 3) := by decide +kernel
theorem dX12_keyOf_42 : decode cX12_keyOf 42 = .ok (.aload_n 0, 1) := by decide +kernel
theorem dX12_keyOf_43 : decode cX12_keyOf 43 = .ok (.getfield 37, 3) := by decide +kernel
theorem dX12_keyOf_46 : decode cX12_keyOf 46 = .ok (.bipush 52, 2) := by decide +kernel
theorem dX12_keyOf_48 : decode cX12_keyOf 48 = .ok (.iload 4, 2) := by decide +kernel
theorem dX12_keyOf_50 : decode cX12_keyOf 50 = .ok (.iadd, 1) := by decide +kernel
theorem dX12_keyOf_51 : decode cX12_keyOf 51 = .ok (.iaload, 1) := by decide +kernel
theorem dX12_keyOf_52 : decode cX12_keyOf 52 = .ok (.iload_n 3, 1) := by decide +kernel
theorem dX12_keyOf_53 : decode cX12_keyOf 53 = .ok (.if_icmp .ne 6, 3) := by decide +kernel
theorem dX12_keyOf_56 : decode cX12_keyOf 56 = .ok (.iload 4, 2) := by decide +kernel
theorem dX12_keyOf_58 : decode cX12_keyOf 58 = .ok (.ireturn, 1) := by decide +kernel
theorem dX12_keyOf_59 : decode cX12_keyOf 59 = .ok (.iinc 4 1, 3) := by decide +kernel
theorem dX12_keyOf_62 : decode cX12_keyOf 62 = .ok (.goto (-59), 3) := by decide +kernel
theorem dX12_keyOf_65 : decode cX12_keyOf 65 = .ok (.iconst (-1), 1) := by decide +kernel
theorem dX12_keyOf_66 : decode cX12_keyOf 66 = .ok (.ireturn, 1) := by decide +kernel
abbrev M_X12_keyOf : mM := (cX12_keyOf, 5, RX12, some .int, false, 0, 0, 0, 0)
theorem gX12_keyOf : cI yX12_keyOf M_X12_keyOf 3 := ⟨(wsl_27 _ (List.mem_of_getElem? (i := 6) rfl)), (wsl_27 _ (List.mem_of_getElem? (i := 7) rfl)), (wsl_1 _ (List.mem_of_getElem? (i := 5) rfl)), (wsl_27 _ (List.mem_of_getElem? (i := 8) rfl)), by decide +kernel⟩
noncomputable def fX12_keyOf_s3 (h : hH) (a0 a1 a2 a3 : Int) : Int → Option ((Int) ⊕ (Int)) := fun l4 =>
  (aget h (h a0 7) 1).bind fun v10 =>
  if l4 < v10 then
    (aget h (h a0 7) (w32 (40 + l4))).bind fun v23 =>
    if v23 = a1 then
      (aget h (h a0 7) (w32 (46 + l4))).bind fun v37 =>
      if v37 = a2 then
        (aget h (h a0 7) (w32 (52 + l4))).bind fun v51 =>
        if v51 = a3 then
          some (.inr (l4))
        else
          some (.inl (w32 (l4 + 1)))
      else
        some (.inl (w32 (l4 + 1)))
    else
      some (.inl (w32 (l4 + 1)))
  else
    some (.inr (-1))
noncomputable def fX12_keyOf (h : hH) (a0 a1 a2 a3 : Int) : Option (Int) :=
  lpO (fX12_keyOf_s3 h a0 a1 a2 a3) 0
section M_X12_keyOf
variable {p : Program} {l : Launch} {e : Env} {R : Room} {s : State} {m : MethodId} {args : Array Value} {below : List Frame} {meth : Method} {c : Code} {D : va_G} {G : gG} {A : Nat → Prop} {H0 : Heap} {n0 : Int} {x : Option vV × hH} {h : hH}
set_option maxRecDepth 100000 in
set_option maxHeartbeats 4000000 in
theorem oX12_keyOf_s3 {a0 a1 a2 a3 l4 : Int} {K : (Int) ⊕ (Int) → Prop} (k0 : ∀ r, K (.inr (r)) → x = (some (0, r), h)) (k1 : ∀ (l4 : Int), K (.inl l4) → Wq p l e R s m args below meth c D G A H0 true n0 M_X12_keyOf x 0 0 3 [(0, (22, a0)), (1, (0, a1)), (2, (0, a2)), (3, (0, a3)), (4, (0, l4))] [] h) {r : (Int) ⊕ (Int)} (hr : fX12_keyOf_s3 h a0 a1 a2 a3 l4 = some r) (hk : K r) : Wq p l e R s m args below meth c D G A H0 true n0 M_X12_keyOf x 0 0 3 [(0, (22, a0)), (1, (0, a1)), (2, (0, a2)), (3, (0, a3)), (4, (0, l4))] [] h := by
  unfold fX12_keyOf_s3 at hr
  refine r_iload dX12_keyOf_3 4 rfl (Or.inl rfl) ?_
  refine r_aload_n dX12_keyOf_5 rfl 0 rfl (nl rfl) ?_
  refine r_get 12 7 (o := a0) (w := (50, h a0 7)) (T := TX12) (ref := "FollowingRefsModel") rfl (by decide) rfl (by decide) inlX12 (wsl_7 _ (List.mem_of_getElem? (i := 9) rfl)) rfl dX12_keyOf_6 rfl ?_
  refine r_iconst dX12_keyOf_9 (by decide) ?_
  obtain ⟨v10, hg10, hr⟩ := bnd hr
  refine r_iald dX12_keyOf_10 hg10 ?_
  refine r_icmp_ge dX12_keyOf_11 (tgt := 65) (by decide) (fun hc => ?_) (fun hc => ?_)
  · have hr := ifn hr hc
    refine r_iconst dX12_keyOf_65 (by decide) ?_
    obtain rfl := Option.some.inj hr
    exact r_ret dX12_keyOf_66 rfl (Or.inl ⟨rfl, rfl⟩) (k0 _ hk) ⟨rfl, rfl⟩
  · have hr := ifp hr hc
    refine r_aload_n dX12_keyOf_14 rfl 0 rfl (nl rfl) ?_
    refine r_get 12 7 (o := a0) (w := (50, h a0 7)) (T := TX12) (ref := "FollowingRefsModel") rfl (by decide) rfl (by decide) inlX12 (wsl_7 _ (List.mem_of_getElem? (i := 9) rfl)) rfl dX12_keyOf_15 rfl ?_
    refine r_bipush dX12_keyOf_18 (by decide) (by decide) ?_
    refine r_iload dX12_keyOf_20 4 rfl (Or.inl rfl) ?_
    refine r_iadd dX12_keyOf_22 ?_
    obtain ⟨v23, hg23, hr⟩ := bnd hr
    refine r_iald dX12_keyOf_23 hg23 ?_
    refine r_iload_n dX12_keyOf_24 rfl 1 rfl (Or.inl rfl) ?_
    refine r_icmp_ne dX12_keyOf_25 (tgt := 59) (by decide) (fun hc => ?_) (fun hc => ?_)
    · have hr := ifn hr hc
      refine r_iinc (k := 4) (v := l4) dX12_keyOf_59 rfl (by decide) (lv' := [(4, (0, w32 (l4 + 1))), (0, (22, a0)), (1, (0, a1)), (2, (0, a2)), (3, (0, a3))]) rfl ?_
      refine r_goto dX12_keyOf_62 (tgt := 3) (by decide) ?_
      refine r_sub [1, 2, 3, 4, 0] (lv' := [(0, (22, a0)), (1, (0, a1)), (2, (0, a2)), (3, (0, a3)), (4, (0, w32 (l4 + 1)))]) rfl ?_
      obtain rfl := Option.some.inj hr
      exact k1 _ hk
    · have hr := ifp hr hc
      refine r_aload_n dX12_keyOf_28 rfl 0 rfl (nl rfl) ?_
      refine r_get 12 7 (o := a0) (w := (50, h a0 7)) (T := TX12) (ref := "FollowingRefsModel") rfl (by decide) rfl (by decide) inlX12 (wsl_7 _ (List.mem_of_getElem? (i := 9) rfl)) rfl dX12_keyOf_29 rfl ?_
      refine r_bipush dX12_keyOf_32 (by decide) (by decide) ?_
      refine r_iload dX12_keyOf_34 4 rfl (Or.inl rfl) ?_
      refine r_iadd dX12_keyOf_36 ?_
      obtain ⟨v37, hg37, hr⟩ := bnd hr
      refine r_iald dX12_keyOf_37 hg37 ?_
      refine r_iload_n dX12_keyOf_38 rfl 2 rfl (Or.inl rfl) ?_
      refine r_icmp_ne dX12_keyOf_39 (tgt := 59) (by decide) (fun hc => ?_) (fun hc => ?_)
      · have hr := ifn hr hc
        refine r_iinc (k := 4) (v := l4) dX12_keyOf_59 rfl (by decide) (lv' := [(4, (0, w32 (l4 + 1))), (0, (22, a0)), (1, (0, a1)), (2, (0, a2)), (3, (0, a3))]) rfl ?_
        refine r_goto dX12_keyOf_62 (tgt := 3) (by decide) ?_
        refine r_sub [1, 2, 3, 4, 0] (lv' := [(0, (22, a0)), (1, (0, a1)), (2, (0, a2)), (3, (0, a3)), (4, (0, w32 (l4 + 1)))]) rfl ?_
        obtain rfl := Option.some.inj hr
        exact k1 _ hk
      · have hr := ifp hr hc
        refine r_aload_n dX12_keyOf_42 rfl 0 rfl (nl rfl) ?_
        refine r_get 12 7 (o := a0) (w := (50, h a0 7)) (T := TX12) (ref := "FollowingRefsModel") rfl (by decide) rfl (by decide) inlX12 (wsl_7 _ (List.mem_of_getElem? (i := 9) rfl)) rfl dX12_keyOf_43 rfl ?_
        refine r_bipush dX12_keyOf_46 (by decide) (by decide) ?_
        refine r_iload dX12_keyOf_48 4 rfl (Or.inl rfl) ?_
        refine r_iadd dX12_keyOf_50 ?_
        obtain ⟨v51, hg51, hr⟩ := bnd hr
        refine r_iald dX12_keyOf_51 hg51 ?_
        refine r_iload_n dX12_keyOf_52 rfl 3 rfl (Or.inl rfl) ?_
        refine r_icmp_ne dX12_keyOf_53 (tgt := 59) (by decide) (fun hc => ?_) (fun hc => ?_)
        · have hr := ifn hr hc
          refine r_iinc (k := 4) (v := l4) dX12_keyOf_59 rfl (by decide) (lv' := [(4, (0, w32 (l4 + 1))), (0, (22, a0)), (1, (0, a1)), (2, (0, a2)), (3, (0, a3))]) rfl ?_
          refine r_goto dX12_keyOf_62 (tgt := 3) (by decide) ?_
          refine r_sub [1, 2, 3, 4, 0] (lv' := [(0, (22, a0)), (1, (0, a1)), (2, (0, a2)), (3, (0, a3)), (4, (0, w32 (l4 + 1)))]) rfl ?_
          obtain rfl := Option.some.inj hr
          exact k1 _ hk
        · have hr := ifp hr hc
          refine r_iload dX12_keyOf_56 4 rfl (Or.inl rfl) ?_
          obtain rfl := Option.some.inj hr
          exact r_ret dX12_keyOf_58 rfl (Or.inl ⟨rfl, rfl⟩) (k0 _ hk) ⟨rfl, rfl⟩
set_option maxRecDepth 100000 in
set_option maxHeartbeats 4000000 in
theorem oX12_keyOf_b0 {a0 a1 a2 a3 : Int} {K : Int → Prop} (k0 : ∀ r, K (r) → x = (some (0, r), h)) {r : Int} (hr : fX12_keyOf h a0 a1 a2 a3 = some r) (hk : K r) : Wq p l e R s m args below meth c D G A H0 true n0 M_X12_keyOf x 0 0 0 [(0, (22, a0)), (1, (0, a1)), (2, (0, a2)), (3, (0, a3))] [] h := by
  unfold fX12_keyOf at hr
  refine r_iconst dX12_keyOf_0 (by decide) ?_
  refine r_istore dX12_keyOf_1 (Or.inl rfl) (by decide) (lv' := [(4, (0, 0)), (0, (22, a0)), (1, (0, a1)), (2, (0, a2)), (3, (0, a3))]) rfl ?_
  refine r_sub [1, 2, 3, 4, 0] (lv' := [(0, (22, a0)), (1, (0, a1)), (2, (0, a2)), (3, (0, a3)), (4, (0, 0))]) rfl ?_
  exact lp_ok (w := fun (q : Int) => Wq p l e R s m args below meth c D G A H0 true n0 M_X12_keyOf x 0 0 3 [(0, (22, a0)), (1, (0, a1)), (2, (0, a2)), (3, (0, a3)), (4, (0, q))] [] (h)) (K := K) (fun q r h1 h2 => oX12_keyOf_s3 (K := Sum.elim (fun (q : Int) => Wq p l e R s m args below meth c D G A H0 true n0 M_X12_keyOf x 0 0 3 [(0, (22, a0)), (1, (0, a1)), (2, (0, a2)), (3, (0, a3)), (4, (0, q))] [] (h)) (K)) (fun r z => k0 r z) (fun _ z => z) h1 h2) hr hk
end M_X12_keyOf
theorem oX12_keyOf {l : Launch} {D : va_G} {G : gG} {h : hH} {a0 a1 a2 a3 : Int} {r : Int} (hr : fX12_keyOf h a0 a1 a2 a3 = some r) : Ctr l D G true yX12_keyOf M_X12_keyOf [(22, a0), (0, a1), (0, a2), (0, a3)] h (some (0, r), h) :=
  Ctr_of (by decide) rfl (fun z => by cases z) (nl rfl) (fun {p e R s m args below meth c A H0} => by
    exact oX12_keyOf_b0 (K := fun z9 => z9 = r) (fun r9 z => by rw [z]) hr rfl)
/-! X12_onWord -/
theorem dX12_onWord_0 : decode cX12_onWord 0 = .ok (.aload_n 0, 1) := by decide +kernel
theorem dX12_onWord_1 : decode cX12_onWord 1 = .ok (.ldc2_w 137, 3) := by decide +kernel
theorem dX12_onWord_4 : decode cX12_onWord 4 = .ok (.invokevirtual 248, 3) := by decide +kernel
theorem dX12_onWord_7 : decode cX12_onWord 7 = .ok (.ifCond .eq 7, 3) := by decide +kernel
theorem dX12_onWord_10 : decode cX12_onWord 10 = .ok (.iconst 0, 1) := by decide +kernel
theorem dX12_onWord_11 : decode cX12_onWord 11 = .ok (.goto 46, 3) := by decide +kernel
theorem dX12_onWord_14 : decode cX12_onWord 14 = .ok (.aload_n 0, 1) := by decide +kernel
theorem dX12_onWord_15 : decode cX12_onWord 15 = .ok (.ldc2_w 139, 3) := by decide +kernel
theorem dX12_onWord_18 : decode cX12_onWord 18 = .ok (.invokevirtual 248, 3) := by decide +kernel
theorem dX12_onWord_21 : decode cX12_onWord 21 = .ok (.ifCond .eq 7, 3) := by decide +kernel
theorem dX12_onWord_24 : decode cX12_onWord 24 = .ok (.iconst 1, 1) := by decide +kernel
theorem dX12_onWord_25 : decode cX12_onWord 25 = .ok (.goto 32, 3) := by decide +kernel
theorem dX12_onWord_28 : decode cX12_onWord 28 = .ok (.aload_n 0, 1) := by decide +kernel
theorem dX12_onWord_29 : decode cX12_onWord 29 = .ok (.ldc2_w 141, 3) := by decide +kernel
theorem dX12_onWord_32 : decode cX12_onWord 32 = .ok (.invokevirtual 248, 3) := by decide +kernel
theorem dX12_onWord_35 : decode cX12_onWord 35 = .ok (.ifCond .eq 7, 3) := by decide +kernel
theorem dX12_onWord_38 : decode cX12_onWord 38 = .ok (.iconst 2, 1) := by decide +kernel
theorem dX12_onWord_39 : decode cX12_onWord 39 = .ok (.goto 18, 3) := by decide +kernel
theorem dX12_onWord_42 : decode cX12_onWord 42 = .ok (.aload_n 0, 1) := by decide +kernel
theorem dX12_onWord_43 : decode cX12_onWord 43 = .ok (.ldc2_w 143, 3) := by decide +kernel
theorem dX12_onWord_46 : decode cX12_onWord 46 = .ok (.invokevirtual 248, 3) := by decide +kernel
theorem dX12_onWord_49 : decode cX12_onWord 49 = .ok (.ifCond .eq 7, 3) := by decide +kernel
theorem dX12_onWord_52 : decode cX12_onWord 52 = .ok (.iconst 3, 1) := by decide +kernel
theorem dX12_onWord_53 : decode cX12_onWord 53 = .ok (.goto 4, 3) := by decide +kernel
theorem dX12_onWord_56 : decode cX12_onWord 56 = .ok (.iconst (-1), 1) := by decide +kernel
theorem dX12_onWord_57 : decode cX12_onWord 57 = .ok (.ireturn, 1) := by decide +kernel
abbrev M_X12_onWord : mM := (cX12_onWord, 1, RX12, some .int, false, 1, 22, 0, 0)
theorem gX12_onWord : cI yX12_onWord M_X12_onWord 0 := ⟨(wsl_27 _ (List.mem_of_getElem? (i := 14) rfl)), (wsl_27 _ (List.mem_of_getElem? (i := 15) rfl)), (wsl_1 _ (List.mem_of_getElem? (i := 5) rfl)), (wsl_27 _ (List.mem_of_getElem? (i := 16) rfl)), by decide +kernel⟩
noncomputable def fX12_onWord (h : hH) (a0 : Int) : Option (Int) :=
  (fX12_isWord h a0 125779836236645).bind fun r4 =>
  if r4 = 0 then
    (fX12_isWord h a0 112628746448759).bind fun r18 =>
    if r18 = 0 then
      (fX12_isWord h a0 427020345714).bind fun r32 =>
      if r32 = 0 then
        (fX12_isWord h a0 491328333172).bind fun r46 =>
        if r46 = 0 then
          some (-1)
        else
          some 3
      else
        some 2
    else
      some 1
  else
    some 0
section M_X12_onWord
variable {p : Program} {l : Launch} {e : Env} {R : Room} {s : State} {m : MethodId} {args : Array Value} {below : List Frame} {meth : Method} {c : Code} {D : va_G} {G : gG} {A : Nat → Prop} {H0 : Heap} {n0 : Int} {x : Option vV × hH} {h : hH}
set_option maxRecDepth 100000 in
set_option maxHeartbeats 4000000 in
theorem oX12_onWord_b0 {a0 : Int} {K : Int → Prop} (k0 : ∀ r, K (r) → x = (some (0, r), h)) {r : Int} (hr : fX12_onWord h a0 = some r) (hk : K r) : Wq p l e R s m args below meth c D G A H0 true n0 M_X12_onWord x 0 0 0 [(0, (22, a0))] [] h := by
  unfold fX12_onWord at hr
  refine r_aload_n dX12_onWord_0 rfl 0 rfl (nl rfl) ?_
  refine r_ldc2' (v := 125779836236645) dX12_onWord_1 (by decide) (wsl_8 _ (List.mem_of_getElem? (i := 20) rfl)) ?_
  obtain ⟨r4, hg4, hr⟩ := bnd hr
  refine k_V (ci := 12) (o := a0) (T := TX12) (as := [(1, 125779836236645)]) (rest := []) (X := (some (2, r4), h)) (oX12_isWord hg4) gX12_isWord rfl (by decide) rfl (wsl_24 _ (List.mem_of_getElem? (i := 22) rfl)) rfl dX12_onWord_4 rfl ?_
  refine r_scast 0 (v := (2, r4)) (w := (0, r4)) rfl zc hTz (st' := [(0, r4)]) rfl ?_
  refine r_if_eq dX12_onWord_7 (tgt := 14) (by decide) (fun hc => ?_) (fun hc => ?_)
  · have hr := ifp hr hc
    refine r_aload_n dX12_onWord_14 rfl 0 rfl (nl rfl) ?_
    refine r_ldc2' (v := 112628746448759) dX12_onWord_15 (by decide) (wsl_8 _ (List.mem_of_getElem? (i := 21) rfl)) ?_
    obtain ⟨r18, hg18, hr⟩ := bnd hr
    refine k_V (ci := 12) (o := a0) (T := TX12) (as := [(1, 112628746448759)]) (rest := []) (X := (some (2, r18), h)) (oX12_isWord hg18) gX12_isWord rfl (by decide) rfl (wsl_24 _ (List.mem_of_getElem? (i := 22) rfl)) rfl dX12_onWord_18 rfl ?_
    refine r_scast 0 (v := (2, r18)) (w := (0, r18)) rfl zc hTz (st' := [(0, r18)]) rfl ?_
    refine r_if_eq dX12_onWord_21 (tgt := 28) (by decide) (fun hc => ?_) (fun hc => ?_)
    · have hr := ifp hr hc
      refine r_aload_n dX12_onWord_28 rfl 0 rfl (nl rfl) ?_
      refine r_ldc2' (v := 427020345714) dX12_onWord_29 (by decide) (wsl_8 _ (List.mem_of_getElem? (i := 22) rfl)) ?_
      obtain ⟨r32, hg32, hr⟩ := bnd hr
      refine k_V (ci := 12) (o := a0) (T := TX12) (as := [(1, 427020345714)]) (rest := []) (X := (some (2, r32), h)) (oX12_isWord hg32) gX12_isWord rfl (by decide) rfl (wsl_24 _ (List.mem_of_getElem? (i := 22) rfl)) rfl dX12_onWord_32 rfl ?_
      refine r_scast 0 (v := (2, r32)) (w := (0, r32)) rfl zc hTz (st' := [(0, r32)]) rfl ?_
      refine r_if_eq dX12_onWord_35 (tgt := 42) (by decide) (fun hc => ?_) (fun hc => ?_)
      · have hr := ifp hr hc
        refine r_aload_n dX12_onWord_42 rfl 0 rfl (nl rfl) ?_
        refine r_ldc2' (v := 491328333172) dX12_onWord_43 (by decide) (wsl_8 _ (List.mem_of_getElem? (i := 23) rfl)) ?_
        obtain ⟨r46, hg46, hr⟩ := bnd hr
        refine k_V (ci := 12) (o := a0) (T := TX12) (as := [(1, 491328333172)]) (rest := []) (X := (some (2, r46), h)) (oX12_isWord hg46) gX12_isWord rfl (by decide) rfl (wsl_24 _ (List.mem_of_getElem? (i := 22) rfl)) rfl dX12_onWord_46 rfl ?_
        refine r_scast 0 (v := (2, r46)) (w := (0, r46)) rfl zc hTz (st' := [(0, r46)]) rfl ?_
        refine r_if_eq dX12_onWord_49 (tgt := 56) (by decide) (fun hc => ?_) (fun hc => ?_)
        · have hr := ifp hr hc
          refine r_iconst dX12_onWord_56 (by decide) ?_
          obtain rfl := Option.some.inj hr
          exact r_ret dX12_onWord_57 rfl (Or.inl ⟨rfl, rfl⟩) (k0 _ hk) ⟨rfl, rfl⟩
        · have hr := ifn hr hc
          refine r_iconst dX12_onWord_52 (by decide) ?_
          refine r_goto dX12_onWord_53 (tgt := 57) (by decide) ?_
          obtain rfl := Option.some.inj hr
          exact r_ret dX12_onWord_57 rfl (Or.inl ⟨rfl, rfl⟩) (k0 _ hk) ⟨rfl, rfl⟩
      · have hr := ifn hr hc
        refine r_iconst dX12_onWord_38 (by decide) ?_
        refine r_goto dX12_onWord_39 (tgt := 57) (by decide) ?_
        obtain rfl := Option.some.inj hr
        exact r_ret dX12_onWord_57 rfl (Or.inl ⟨rfl, rfl⟩) (k0 _ hk) ⟨rfl, rfl⟩
    · have hr := ifn hr hc
      refine r_iconst dX12_onWord_24 (by decide) ?_
      refine r_goto dX12_onWord_25 (tgt := 57) (by decide) ?_
      obtain rfl := Option.some.inj hr
      exact r_ret dX12_onWord_57 rfl (Or.inl ⟨rfl, rfl⟩) (k0 _ hk) ⟨rfl, rfl⟩
  · have hr := ifn hr hc
    refine r_iconst dX12_onWord_10 (by decide) ?_
    refine r_goto dX12_onWord_11 (tgt := 57) (by decide) ?_
    obtain rfl := Option.some.inj hr
    exact r_ret dX12_onWord_57 rfl (Or.inl ⟨rfl, rfl⟩) (k0 _ hk) ⟨rfl, rfl⟩
end M_X12_onWord
theorem oX12_onWord {l : Launch} {D : va_G} {G : gG} {h : hH} {a0 : Int} {r : Int} (hr : fX12_onWord h a0 = some r) : Ctr l D G true yX12_onWord M_X12_onWord [(22, a0)] h (some (0, r), h) :=
  Ctr_of (by decide) rfl (fun z => by cases z) (nl rfl) (fun {p e R s m args below meth c A H0} => by
    exact oX12_onWord_b0 (K := fun z9 => z9 = r) (fun r9 z => by rw [z]) hr rfl)
/-! X12_takesOn -/
theorem dX12_takesOn_0 : decode cX12_takesOn 0 = .ok (.aload_n 0, 1) := by decide +kernel
theorem dX12_takesOn_1 : decode cX12_takesOn 1 = .ok (.invokevirtual 289, 3) := by decide +kernel
theorem dX12_takesOn_4 : decode cX12_takesOn 4 = .ok (.istore_n 2, 1) := by decide +kernel
theorem dX12_takesOn_5 : decode cX12_takesOn 5 = .ok (.iload_n 2, 1) := by decide +kernel
theorem dX12_takesOn_6 : decode cX12_takesOn 6 = .ok (.ifCond .ge 9, 3) := by decide +kernel
theorem dX12_takesOn_9 : decode cX12_takesOn 9 = .ok (.aload_n 0, 1) := by decide +kernel
theorem dX12_takesOn_10 : decode cX12_takesOn 10 = .ok (.iconst 1, 1) := by decide +kernel
theorem dX12_takesOn_11 : decode cX12_takesOn 11 = .ok (.invokevirtual 223, 3) := by decide +kernel
theorem dX12_takesOn_14 : decode cX12_takesOn 14 = .ok (.ireturn, 1) := by decide +kernel
theorem dX12_takesOn_15 : decode cX12_takesOn 15 = .ok (.aload_n 0, 1) := by decide +kernel
theorem dX12_takesOn_16 : decode cX12_takesOn 16 = .ok (.getfield 37, 3) := by decide +kernel
theorem dX12_takesOn_19 : decode cX12_takesOn 19 = .ok (.iload_n 1, 1) := by decide +kernel
theorem dX12_takesOn_20 : decode cX12_takesOn 20 = .ok (.iload_n 2, 1) := by decide +kernel
theorem dX12_takesOn_21 : decode cX12_takesOn 21 = .ok (.iastore, 1) := by decide +kernel
theorem dX12_takesOn_22 : decode cX12_takesOn 22 = .ok (.aload_n 0, 1) := by decide +kernel
theorem dX12_takesOn_23 : decode cX12_takesOn 23 = .ok (.invokevirtual 226, 3) := by decide +kernel
theorem dX12_takesOn_26 : decode cX12_takesOn 26 = .ok (.iconst 1, 1) := by decide +kernel
theorem dX12_takesOn_27 : decode cX12_takesOn 27 = .ok (.ireturn, 1) := by decide +kernel
abbrev M_X12_takesOn : mM := (cX12_takesOn, 3, RX12, some .boolean, false, 2, 43, 0, 0)
theorem gX12_takesOn : cI yX12_takesOn M_X12_takesOn 1 := ⟨(wsl_27 _ (List.mem_of_getElem? (i := 10) rfl)), (wsl_27 _ (List.mem_of_getElem? (i := 11) rfl)), (wsl_1 _ (List.mem_of_getElem? (i := 5) rfl)), (wsl_27 _ (List.mem_of_getElem? (i := 12) rfl)), by decide +kernel⟩
noncomputable def fX12_takesOn (h : hH) (a0 a1 : Int) : Option (Int × hH) :=
  (fX12_onWord h a0).bind fun r1 =>
  if r1 < 0 then
    (fX12_bad h a0 1).bind fun q11 =>
    some (q11.1, q11.2)
  else
    (aput h (h a0 7) a1 r1).bind fun h21 =>
    (fX12_next h21 a0).bind fun h23 =>
    some (1, h23)
section M_X12_takesOn
variable {p : Program} {l : Launch} {e : Env} {R : Room} {s : State} {m : MethodId} {args : Array Value} {below : List Frame} {meth : Method} {c : Code} {D : va_G} {G : gG} {A : Nat → Prop} {H0 : Heap} {n0 : Int} {x : Option vV × hH} {h : hH}
set_option maxRecDepth 100000 in
set_option maxHeartbeats 4000000 in
theorem oX12_takesOn_b0 {a0 a1 : Int} {K : Int × hH → Prop} (k0 : ∀ r, K (r) → x = (some (2, r.1), r.2)) {r : Int × hH} (hr : fX12_takesOn h a0 a1 = some r) (hk : K r) : Wq p l e R s m args below meth c D G A H0 true n0 M_X12_takesOn x 0 0 0 [(0, (22, a0)), (1, (0, a1))] [] h := by
  unfold fX12_takesOn at hr
  refine r_aload_n dX12_takesOn_0 rfl 0 rfl (nl rfl) ?_
  obtain ⟨r1, hg1, hr⟩ := bnd hr
  refine k_V (ci := 12) (o := a0) (T := TX12) (as := []) (rest := []) (X := (some (0, r1), h)) (oX12_onWord hg1) gX12_onWord rfl (by decide) rfl (wsl_27 _ (List.mem_of_getElem? (i := 13) rfl)) rfl dX12_takesOn_1 rfl ?_
  refine r_istore_n dX12_takesOn_4 rfl (Or.inl rfl) (by decide) (lv' := [(2, (0, r1)), (0, (22, a0)), (1, (0, a1))]) rfl ?_
  refine r_iload_n dX12_takesOn_5 rfl 0 rfl (Or.inl rfl) ?_
  refine r_if_ge dX12_takesOn_6 (tgt := 15) (by decide) (fun hc => ?_) (fun hc => ?_)
  · have hr := ifn hr hc
    refine r_aload_n dX12_takesOn_15 rfl 1 rfl (nl rfl) ?_
    refine r_get 12 7 (o := a0) (w := (50, h a0 7)) (T := TX12) (ref := "FollowingRefsModel") rfl (by decide) rfl (by decide) inlX12 (wsl_7 _ (List.mem_of_getElem? (i := 9) rfl)) rfl dX12_takesOn_16 rfl ?_
    refine r_iload_n dX12_takesOn_19 rfl 2 rfl (Or.inl rfl) ?_
    refine r_iload_n dX12_takesOn_20 rfl 0 rfl (Or.inl rfl) ?_
    obtain ⟨h21, hg21, hr⟩ := bnd hr
    refine r_iast dX12_takesOn_21 hg21 ?_
    refine r_aload_n dX12_takesOn_22 rfl 1 rfl (nl rfl) ?_
    obtain ⟨h23, hg23, hr⟩ := bnd hr
    refine k_V (ci := 12) (o := a0) (T := TX12) (as := []) (rest := []) (X := (none, h23)) (oX12_next hg23) gX12_next rfl (by decide) rfl (wsl_24 _ (List.mem_of_getElem? (i := 0) rfl)) rfl dX12_takesOn_23 rfl ?_
    refine r_iconst dX12_takesOn_26 (by decide) ?_
    refine r_scast 0 (v := (0, 1)) (w := (2, 1)) rfl cz (fun _ => Or.inr rfl) (st' := [(2, 1)]) rfl ?_
    obtain rfl := Option.some.inj hr
    exact r_ret dX12_takesOn_27 rfl (Or.inr ⟨rfl, rfl⟩) (k0 _ hk) ⟨rfl, rfl⟩
  · have hr := ifp hr hc
    refine r_aload_n dX12_takesOn_9 rfl 1 rfl (nl rfl) ?_
    refine r_iconst dX12_takesOn_10 (by decide) ?_
    obtain ⟨q11, hg11, hr⟩ := bnd hr
    refine k_V (ci := 12) (o := a0) (T := TX12) (as := [(0, 1)]) (rest := []) (X := (some (2, q11.1), q11.2)) (oX12_bad hg11) gX12_bad rfl (by decide) rfl (wsl_25 _ (List.mem_of_getElem? (i := 6) rfl)) rfl dX12_takesOn_11 rfl ?_
    obtain rfl := Option.some.inj hr
    exact r_ret dX12_takesOn_14 rfl (Or.inr ⟨rfl, rfl⟩) (k0 _ hk) ⟨rfl, rfl⟩
end M_X12_takesOn
theorem oX12_takesOn {l : Launch} {D : va_G} {G : gG} {h : hH} {a0 a1 : Int} {r : Int × hH} (hr : fX12_takesOn h a0 a1 = some r) : Ctr l D G true yX12_takesOn M_X12_takesOn [(22, a0), (0, a1)] h (some (2, r.1), r.2) :=
  Ctr_of (by decide) rfl (fun z => by cases z) (nl rfl) (fun {p e R s m args below meth c A H0} => by
    exact oX12_takesOn_b0 (K := fun z9 => z9 = r) (fun r9 z => by rw [z]) hr rfl)
/-! X12_readRef -/
theorem dX12_readRef_0 : decode cX12_readRef 0 = .ok (.aload_n 0, 1) := by decide +kernel
theorem dX12_readRef_1 : decode cX12_readRef 1 = .ok (.getfield 37, 3) := by decide +kernel
theorem dX12_readRef_4 : decode cX12_readRef 4 = .ok (.iconst 2, 1) := by decide +kernel
theorem dX12_readRef_5 : decode cX12_readRef 5 = .ok (.iaload, 1) := by decide +kernel
theorem dX12_readRef_6 : decode cX12_readRef 6 = .ok (.istore_n 1, 1) := by decide +kernel
theorem dX12_readRef_7 : decode cX12_readRef 7 = .ok (.aload_n 0, 1) := by decide +kernel
theorem dX12_readRef_8 : decode cX12_readRef 8 = .ok (.invokevirtual 226, 3) := by decide +kernel
theorem dX12_readRef_11 : decode cX12_readRef 11 = .ok (.aload_n 0, 1) := by decide +kernel
theorem dX12_readRef_12 : decode cX12_readRef 12 = .ok (.invokevirtual 282, 3) := by decide +kernel
theorem dX12_readRef_15 : decode cX12_readRef 15 = .ok (.ifCond .ne 5, 3) := by decide +kernel
theorem dX12_readRef_18 : decode cX12_readRef 18 = .ok (.iconst 0, 1) := by decide +kernel
theorem dX12_readRef_19 : decode cX12_readRef 19 = .ok (.ireturn, 1) := by decide +kernel
theorem dX12_readRef_20 : decode cX12_readRef 20 = .ok (.aload_n 0, 1) := by decide +kernel
theorem dX12_readRef_21 : decode cX12_readRef 21 = .ok (.getfield 233, 3) := by decide +kernel
theorem dX12_readRef_24 : decode cX12_readRef 24 = .ok (.istore_n 2, 1) := by decide +kernel
theorem dX12_readRef_25 : decode cX12_readRef 25 = .ok (.aload_n 0, 1) := by decide +kernel
theorem dX12_readRef_26 : decode cX12_readRef 26 = .ok (.iload_n 2, 1) := by decide +kernel
theorem dX12_readRef_27 : decode cX12_readRef 27 = .ok (.iconst 1, 1) := by decide +kernel
theorem dX12_readRef_28 : decode cX12_readRef 28 = .ok (.iconst 0, 1) := by decide +kernel
theorem dX12_readRef_29 : decode cX12_readRef 29 = .ok (.invokevirtual 285, 3) := by decide +kernel
theorem dX12_readRef_32 : decode cX12_readRef 32 = .ok (.ifCond .ne 5, 3) := by decide +kernel
theorem dX12_readRef_35 : decode cX12_readRef 35 = .ok (.iconst 0, 1) := by decide +kernel
theorem dX12_readRef_36 : decode cX12_readRef 36 = .ok (.ireturn, 1) := by decide +kernel
theorem dX12_readRef_37 : decode cX12_readRef 37 = .ok (.aload_n 0, 1) := by decide +kernel
theorem dX12_readRef_38 : decode cX12_readRef 38 = .ok (.getfield 276, 3) := by decide +kernel
theorem dX12_readRef_41 : decode cX12_readRef 41 = .ok (.istore_n 3, 1) := by decide +kernel
theorem dX12_readRef_42 : decode cX12_readRef 42 = .ok (.aload_n 0, 1) := by decide +kernel
theorem dX12_readRef_43 : decode cX12_readRef 43 = .ok (.getfield 279, 3) := by decide +kernel
theorem dX12_readRef_46 : decode cX12_readRef 46 = .ok (.istore 4, 2) := by decide +kernel
theorem dX12_readRef_48 : decode cX12_readRef 48 = .ok (.aload_n 0, 1) := by decide +kernel
theorem dX12_readRef_49 : decode cX12_readRef 49 = .ok (.ldc2_w 135, 3) := by decide +kernel
theorem dX12_readRef_52 : decode cX12_readRef 52 = .ok (.invokevirtual 248, 3) := by decide +kernel
theorem dX12_readRef_55 : decode cX12_readRef 55 = .ok (.ifCond .ne 9, 3) := by decide +kernel
theorem dX12_readRef_58 : decode cX12_readRef 58 = .ok (.aload_n 0, 1) := by decide +kernel
theorem dX12_readRef_59 : decode cX12_readRef 59 = .ok (.iconst 1, 1) := by decide +kernel
theorem dX12_readRef_60 : decode cX12_readRef 60 = .ok (.invokevirtual 223, 3) := by decide +kernel
theorem dX12_readRef_63 : decode cX12_readRef 63 = .ok (.ireturn, 1) := by decide +kernel
theorem dX12_readRef_64 : decode cX12_readRef 64 = .ok (.aload_n 0, 1) := by decide +kernel
theorem dX12_readRef_65 : decode cX12_readRef 65 = .ok (.invokevirtual 226, 3) := by decide +kernel
theorem dX12_readRef_68 : decode cX12_readRef 68 = .ok (.aload_n 0, 1) := by decide +kernel
theorem dX12_readRef_69 : decode cX12_readRef 69 = .ok (.invokevirtual 282, 3) := by decide +kernel
theorem dX12_readRef_72 : decode cX12_readRef 72 = .ok (.ifCond .ne 5, 3) := by decide +kernel
theorem dX12_readRef_75 : decode cX12_readRef 75 = .ok (.iconst 0, 1) := by decide +kernel
theorem dX12_readRef_76 : decode cX12_readRef 76 = .ok (.ireturn, 1) := by decide +kernel
theorem dX12_readRef_77 : decode cX12_readRef 77 = .ok (.aload_n 0, 1) := by decide +kernel
theorem dX12_readRef_78 : decode cX12_readRef 78 = .ok (.getfield 233, 3) := by decide +kernel
theorem dX12_readRef_81 : decode cX12_readRef 81 = .ok (.istore 5, 2) := by decide +kernel
theorem dX12_readRef_83 : decode cX12_readRef 83 = .ok (.iload 4, 2) := by decide +kernel
theorem dX12_readRef_85 : decode cX12_readRef 85 = .ok (.ifCond .lt 14, 3) := by decide +kernel
theorem dX12_readRef_88 : decode cX12_readRef 88 = .ok (.aload_n 0, 1) := by decide +kernel
theorem dX12_readRef_89 : decode cX12_readRef 89 = .ok (.iload 5, 2) := by decide +kernel
theorem dX12_readRef_91 : decode cX12_readRef 91 = .ok (.invokevirtual 273, 3) := by decide +kernel
theorem dX12_readRef_94 : decode cX12_readRef 94 = .ok (.ifCond .ne 5, 3) := by decide +kernel
theorem dX12_readRef_97 : decode cX12_readRef 97 = .ok (.iconst 0, 1) := by decide +kernel
theorem dX12_readRef_98 : decode cX12_readRef 98 = .ok (.ireturn, 1) := by decide +kernel
theorem dX12_readRef_99 : decode cX12_readRef 99 = .ok (.aload_n 0, 1) := by decide +kernel
theorem dX12_readRef_100 : decode cX12_readRef 100 = .ok (.getfield 233, 3) := by decide +kernel
theorem dX12_readRef_103 : decode cX12_readRef 103 = .ok (.istore 6, 2) := by decide +kernel
theorem dX12_readRef_105 : decode cX12_readRef 105 = .ok (.aload_n 0, 1) := by decide +kernel
theorem dX12_readRef_106 : decode cX12_readRef 106 = .ok (.bipush 24, 2) := by decide +kernel
theorem dX12_readRef_108 : decode cX12_readRef 108 = .ok (.iconst 4, 1) := by decide +kernel
theorem dX12_readRef_109 : decode cX12_readRef 109 = .ok (.iload 5, 2) := by decide +kernel
theorem dX12_readRef_111 : decode cX12_readRef 111 = .ok (.imul, 1) := by decide +kernel
theorem dX12_readRef_112 : decode cX12_readRef 112 = .ok (.iadd, 1) := by decide +kernel
theorem dX12_readRef_113 : decode cX12_readRef 113 = .ok (.aload_n 0, 1) := by decide +kernel
theorem dX12_readRef_114 : decode cX12_readRef 114 = .ok (.getfield 37, 3) := by decide +kernel
theorem dX12_readRef_117 : decode cX12_readRef 117 = .ok (.iconst 4, 1) := by decide +kernel
theorem dX12_readRef_118 : decode cX12_readRef 118 = .ok (.iload 5, 2) := by decide +kernel
theorem dX12_readRef_120 : decode cX12_readRef 120 = .ok (.iadd, 1) := by decide +kernel
theorem dX12_readRef_121 : decode cX12_readRef 121 = .ok (.iaload, 1) := by decide +kernel
theorem dX12_readRef_122 : decode cX12_readRef 122 = .ok (.invokevirtual 244, 3) := by decide +kernel
theorem dX12_readRef_125 : decode cX12_readRef 125 = .ok (.ifCond .ne 5, 3) := by decide +kernel
theorem dX12_readRef_128 : decode cX12_readRef 128 = .ok (.iconst 0, 1) := by decide +kernel
theorem dX12_readRef_129 : decode cX12_readRef 129 = .ok (.ireturn, 1) := by decide +kernel
theorem dX12_readRef_130 : decode cX12_readRef 130 = .ok (.iload 4, 2) := by decide +kernel
theorem dX12_readRef_132 : decode cX12_readRef 132 = .ok (.ifCond .ge 17, 3) := by decide +kernel
theorem dX12_readRef_135 : decode cX12_readRef 135 = .ok (.aload_n 0, 1) := by decide +kernel
theorem dX12_readRef_136 : decode cX12_readRef 136 = .ok (.iload 5, 2) := by decide +kernel
theorem dX12_readRef_138 : decode cX12_readRef 138 = .ok (.aload_n 0, 1) := by decide +kernel
theorem dX12_readRef_139 : decode cX12_readRef 139 = .ok (.getfield 233, 3) := by decide +kernel
theorem dX12_readRef_142 : decode cX12_readRef 142 = .ok (.iconst (-1), 1) := by decide +kernel
theorem dX12_readRef_143 : decode cX12_readRef 143 = .ok (.invokevirtual 292, 3) := by decide +kernel
theorem dX12_readRef_146 : decode cX12_readRef 146 = .ok (.goto 28, 3) := by decide +kernel
theorem dX12_readRef_149 : decode cX12_readRef 149 = .ok (.iload 6, 2) := by decide +kernel
theorem dX12_readRef_151 : decode cX12_readRef 151 = .ok (.aload_n 0, 1) := by decide +kernel
theorem dX12_readRef_152 : decode cX12_readRef 152 = .ok (.getfield 233, 3) := by decide +kernel
theorem dX12_readRef_155 : decode cX12_readRef 155 = .ok (.if_icmp .ne 7, 3) := by decide +kernel
theorem dX12_readRef_158 : decode cX12_readRef 158 = .ok (.iconst (-1), 1) := by decide +kernel
theorem dX12_readRef_159 : decode cX12_readRef 159 = .ok (.goto 15, 3) := by decide +kernel
theorem dX12_readRef_162 : decode cX12_readRef 162 = .ok (.aload_n 0, 1) := by decide +kernel
theorem dX12_readRef_163 : decode cX12_readRef 163 = .ok (.iload 5, 2) := by decide +kernel
theorem dX12_readRef_165 : decode cX12_readRef 165 = .ok (.iload 6, 2) := by decide +kernel
theorem dX12_readRef_167 : decode cX12_readRef 167 = .ok (.aload_n 0, 1) := by decide +kernel
theorem dX12_readRef_168 : decode cX12_readRef 168 = .ok (.getfield 233, 3) := by decide +kernel
theorem dX12_readRef_171 : decode cX12_readRef 171 = .ok (.invokevirtual 292, 3) := by decide +kernel
theorem dX12_readRef_174 : decode cX12_readRef 174 = .ok (.istore 7, 2) := by decide +kernel
theorem dX12_readRef_176 : decode cX12_readRef 176 = .ok (.iload 7, 2) := by decide +kernel
theorem dX12_readRef_178 : decode cX12_readRef 178 = .ok (.ifCond .ge 9, 3) := by decide +kernel
theorem dX12_readRef_181 : decode cX12_readRef 181 = .ok (.aload_n 0, 1) := by decide +kernel
theorem dX12_readRef_182 : decode cX12_readRef 182 = .ok (.iconst 3, 1) := by decide +kernel
theorem dX12_readRef_183 : decode cX12_readRef 183 = .ok (.invokevirtual 223, 3) := by decide +kernel
theorem dX12_readRef_186 : decode cX12_readRef 186 = .ok (.ireturn, 1) := by decide +kernel
theorem dX12_readRef_187 : decode cX12_readRef 187 = .ok (.aload_n 0, 1) := by decide +kernel
theorem dX12_readRef_188 : decode cX12_readRef 188 = .ok (.invokevirtual 226, 3) := by decide +kernel
theorem dX12_readRef_191 : decode cX12_readRef 191 = .ok (.aload_n 0, 1) := by decide +kernel
theorem dX12_readRef_192 : decode cX12_readRef 192 = .ok (.bipush 88, 2) := by decide +kernel
theorem dX12_readRef_194 : decode cX12_readRef 194 = .ok (.iload_n 1, 1) := by decide +kernel
theorem dX12_readRef_195 : decode cX12_readRef 195 = .ok (.iadd, 1) := by decide +kernel
theorem dX12_readRef_196 : decode cX12_readRef 196 = .ok (.invokevirtual 296, 3) := by decide +kernel
theorem dX12_readRef_199 : decode cX12_readRef 199 = .ok (.ifCond .eq 14, 3) := by decide +kernel
theorem dX12_readRef_202 : decode cX12_readRef 202 = .ok (.aload_n 0, 1) := by decide +kernel
theorem dX12_readRef_203 : decode cX12_readRef 203 = .ok (.bipush 94, 2) := by decide +kernel
theorem dX12_readRef_205 : decode cX12_readRef 205 = .ok (.iload_n 1, 1) := by decide +kernel
theorem dX12_readRef_206 : decode cX12_readRef 206 = .ok (.iadd, 1) := by decide +kernel
theorem dX12_readRef_207 : decode cX12_readRef 207 = .ok (.invokevirtual 296, 3) := by decide +kernel
theorem dX12_readRef_210 : decode cX12_readRef 210 = .ok (.ifCond .ne 5, 3) := by decide +kernel
theorem dX12_readRef_213 : decode cX12_readRef 213 = .ok (.iconst 0, 1) := by decide +kernel
theorem dX12_readRef_214 : decode cX12_readRef 214 = .ok (.ireturn, 1) := by decide +kernel
theorem dX12_readRef_215 : decode cX12_readRef 215 = .ok (.aload_n 0, 1) := by decide +kernel
theorem dX12_readRef_216 : decode cX12_readRef 216 = .ok (.getfield 37, 3) := by decide +kernel
theorem dX12_readRef_219 : decode cX12_readRef 219 = .ok (.bipush 58, 2) := by decide +kernel
theorem dX12_readRef_221 : decode cX12_readRef 221 = .ok (.iload_n 1, 1) := by decide +kernel
theorem dX12_readRef_222 : decode cX12_readRef 222 = .ok (.iadd, 1) := by decide +kernel
theorem dX12_readRef_223 : decode cX12_readRef 223 = .ok (.iload_n 2, 1) := by decide +kernel
theorem dX12_readRef_224 : decode cX12_readRef 224 = .ok (.iastore, 1) := by decide +kernel
theorem dX12_readRef_225 : decode cX12_readRef 225 = .ok (.aload_n 0, 1) := by decide +kernel
theorem dX12_readRef_226 : decode cX12_readRef 226 = .ok (.getfield 37, 3) := by decide +kernel
theorem dX12_readRef_229 : decode cX12_readRef 229 = .ok (.bipush 64, 2) := by decide +kernel
theorem dX12_readRef_231 : decode cX12_readRef 231 = .ok (.iload_n 1, 1) := by decide +kernel
theorem dX12_readRef_232 : decode cX12_readRef 232 = .ok (.iadd, 1) := by decide +kernel
theorem dX12_readRef_233 : decode cX12_readRef 233 = .ok (.iload_n 3, 1) := by decide +kernel
theorem dX12_readRef_234 : decode cX12_readRef 234 = .ok (.iastore, 1) := by decide +kernel
theorem dX12_readRef_235 : decode cX12_readRef 235 = .ok (.aload_n 0, 1) := by decide +kernel
theorem dX12_readRef_236 : decode cX12_readRef 236 = .ok (.getfield 37, 3) := by decide +kernel
theorem dX12_readRef_239 : decode cX12_readRef 239 = .ok (.bipush 70, 2) := by decide +kernel
theorem dX12_readRef_241 : decode cX12_readRef 241 = .ok (.iload_n 1, 1) := by decide +kernel
theorem dX12_readRef_242 : decode cX12_readRef 242 = .ok (.iadd, 1) := by decide +kernel
theorem dX12_readRef_243 : decode cX12_readRef 243 = .ok (.iload 4, 2) := by decide +kernel
theorem dX12_readRef_245 : decode cX12_readRef 245 = .ok (.iastore, 1) := by decide +kernel
theorem dX12_readRef_246 : decode cX12_readRef 246 = .ok (.aload_n 0, 1) := by decide +kernel
theorem dX12_readRef_247 : decode cX12_readRef 247 = .ok (.getfield 37, 3) := by decide +kernel
theorem dX12_readRef_250 : decode cX12_readRef 250 = .ok (.bipush 76, 2) := by decide +kernel
theorem dX12_readRef_252 : decode cX12_readRef 252 = .ok (.iload_n 1, 1) := by decide +kernel
theorem dX12_readRef_253 : decode cX12_readRef 253 = .ok (.iadd, 1) := by decide +kernel
theorem dX12_readRef_254 : decode cX12_readRef 254 = .ok (.iload 5, 2) := by decide +kernel
theorem dX12_readRef_256 : decode cX12_readRef 256 = .ok (.iastore, 1) := by decide +kernel
theorem dX12_readRef_257 : decode cX12_readRef 257 = .ok (.aload_n 0, 1) := by decide +kernel
theorem dX12_readRef_258 : decode cX12_readRef 258 = .ok (.getfield 37, 3) := by decide +kernel
theorem dX12_readRef_261 : decode cX12_readRef 261 = .ok (.bipush 82, 2) := by decide +kernel
theorem dX12_readRef_263 : decode cX12_readRef 263 = .ok (.iload_n 1, 1) := by decide +kernel
theorem dX12_readRef_264 : decode cX12_readRef 264 = .ok (.iadd, 1) := by decide +kernel
theorem dX12_readRef_265 : decode cX12_readRef 265 = .ok (.iload 7, 2) := by decide +kernel
theorem dX12_readRef_267 : decode cX12_readRef 267 = .ok (.iastore, 1) := by decide +kernel
theorem dX12_readRef_268 : decode cX12_readRef 268 = .ok (.aload_n 0, 1) := by decide +kernel
theorem dX12_readRef_269 : decode cX12_readRef 269 = .ok (.getfield 37, 3) := by decide +kernel
theorem dX12_readRef_272 : decode cX12_readRef 272 = .ok (.bipush 100, 2) := by decide +kernel
theorem dX12_readRef_274 : decode cX12_readRef 274 = .ok (.iload_n 1, 1) := by decide +kernel
theorem dX12_readRef_275 : decode cX12_readRef 275 = .ok (.iadd, 1) := by decide +kernel
theorem dX12_readRef_276 : decode cX12_readRef 276 = .ok (.aload_n 0, 1) := by decide +kernel
theorem dX12_readRef_277 : decode cX12_readRef 277 = .ok (.ldc2_w 145, 3) := by decide +kernel
theorem dX12_readRef_280 : decode cX12_readRef 280 = .ok (.invokevirtual 248, 3) := by decide +kernel
theorem dX12_readRef_283 : decode cX12_readRef 283 = .ok (.ifCond .eq 7, 3) := by decide +kernel
theorem dX12_readRef_286 : decode cX12_readRef 286 = .ok (.iconst 1, 1) := by decide +kernel
theorem dX12_readRef_287 : decode cX12_readRef 287 = .ok (.goto 4, 3) := by decide +kernel
theorem dX12_readRef_290 : decode cX12_readRef 290 = .ok (.iconst 0, 1) := by decide +kernel
theorem dX12_readRef_291 : decode cX12_readRef 291 = .ok (.iastore, 1) := by decide +kernel
theorem dX12_readRef_292 : decode cX12_readRef 292 = .ok (.aload_n 0, 1) := by decide +kernel
theorem dX12_readRef_293 : decode cX12_readRef 293 = .ok (.ldc2_w 145, 3) := by decide +kernel
theorem dX12_readRef_296 : decode cX12_readRef 296 = .ok (.invokevirtual 248, 3) := by decide +kernel
theorem dX12_readRef_299 : decode cX12_readRef 299 = .ok (.ifCond .eq 7, 3) := by decide +kernel
theorem dX12_readRef_302 : decode cX12_readRef 302 = .ok (.aload_n 0, 1) := by decide +kernel
theorem dX12_readRef_303 : decode cX12_readRef 303 = .ok (.invokevirtual 226, 3) := by decide +kernel
theorem dX12_readRef_306 : decode cX12_readRef 306 = .ok (.aload_n 0, 1) := by decide +kernel
theorem dX12_readRef_307 : decode cX12_readRef 307 = .ok (.getfield 37, 3) := by decide +kernel
theorem dX12_readRef_310 : decode cX12_readRef 310 = .ok (.bipush 106, 2) := by decide +kernel
theorem dX12_readRef_312 : decode cX12_readRef 312 = .ok (.iload_n 1, 1) := by decide +kernel
theorem dX12_readRef_313 : decode cX12_readRef 313 = .ok (.iadd, 1) := by decide +kernel
theorem dX12_readRef_314 : decode cX12_readRef 314 = .ok (.aload_n 0, 1) := by decide +kernel
theorem dX12_readRef_315 : decode cX12_readRef 315 = .ok (.ldc2_w 147, 3) := by decide +kernel
theorem dX12_readRef_318 : decode cX12_readRef 318 = .ok (.invokevirtual 248, 3) := by decide +kernel
theorem dX12_readRef_321 : decode cX12_readRef 321 = .ok (.ifCond .eq 7, 3) := by decide +kernel
theorem dX12_readRef_324 : decode cX12_readRef 324 = .ok (.iconst 1, 1) := by decide +kernel
theorem dX12_readRef_325 : decode cX12_readRef 325 = .ok (.goto 4, 3) := by decide +kernel
theorem dX12_readRef_328 : decode cX12_readRef 328 = .ok (.iconst 0, 1) := by decide +kernel
theorem dX12_readRef_329 : decode cX12_readRef 329 = .ok (.iastore, 1) := by decide +kernel
theorem dX12_readRef_330 : decode cX12_readRef 330 = .ok (.aload_n 0, 1) := by decide +kernel
theorem dX12_readRef_331 : decode cX12_readRef 331 = .ok (.ldc2_w 147, 3) := by decide +kernel
theorem dX12_readRef_334 : decode cX12_readRef 334 = .ok (.invokevirtual 248, 3) := by decide +kernel
theorem dX12_readRef_337 : decode cX12_readRef 337 = .ok (.ifCond .eq 7, 3) := by decide +kernel
theorem dX12_readRef_340 : decode cX12_readRef 340 = .ok (.aload_n 0, 1) := by decide +kernel
theorem dX12_readRef_341 : decode cX12_readRef 341 = .ok (.invokevirtual 226, 3) := by decide +kernel
theorem dX12_readRef_344 : decode cX12_readRef 344 = .ok (.aload_n 0, 1) := by decide +kernel
theorem dX12_readRef_345 : decode cX12_readRef 345 = .ok (.getfield 37, 3) := by decide +kernel
theorem dX12_readRef_348 : decode cX12_readRef 348 = .ok (.iconst 2, 1) := by decide +kernel
theorem dX12_readRef_349 : decode cX12_readRef 349 = .ok (.dup2, 1) := by decide +kernel
theorem dX12_readRef_350 : decode cX12_readRef 350 = .ok (.iaload, 1) := by decide +kernel
theorem dX12_readRef_351 : decode cX12_readRef 351 = .ok (.iconst 1, 1) := by decide +kernel
theorem dX12_readRef_352 : decode cX12_readRef 352 = .ok (.iadd, 1) := by decide +kernel
theorem dX12_readRef_353 : decode cX12_readRef 353 = .ok (.iastore, 1) := by decide +kernel
theorem dX12_readRef_354 : decode cX12_readRef 354 = .ok (.iconst 1, 1) := by decide +kernel
theorem dX12_readRef_355 : decode cX12_readRef 355 = .ok (.ireturn, 1) := by decide +kernel
abbrev M_X12_readRef : mM := (cX12_readRef, 8, RX12, some .boolean, false, 5, 111, 0, 0)
theorem gX12_readRef : cI yX12_readRef M_X12_readRef 0 := ⟨(wsl_27 _ (List.mem_of_getElem? (i := 2) rfl)), (wsl_27 _ (List.mem_of_getElem? (i := 3) rfl)), (wsl_1 _ (List.mem_of_getElem? (i := 5) rfl)), (wsl_27 _ (List.mem_of_getElem? (i := 4) rfl)), by decide +kernel⟩
noncomputable def fX12_readRef_b344 (h : hH) (a0 : Int) : Option (Int × hH) :=
  (aget h (h a0 7) 2).bind fun v350 =>
  (aput h (h a0 7) 2 (w32 (v350 + 1))).bind fun h353 =>
  some (1, h353)
noncomputable def fX12_readRef_b329 (h : hH) (a0 s0 s1 s2 : Int) : Option (Int × hH) :=
  (aput h s2 s1 s0).bind fun h329 =>
  (fX12_isWord h329 a0 1818326117).bind fun r334 =>
  if r334 = 0 then
    fX12_readRef_b344 h329 a0
  else
    (fX12_next h329 a0).bind fun h341 =>
    fX12_readRef_b344 h341 a0
noncomputable def fX12_readRef_b306 (h : hH) (a0 l1 : Int) : Option (Int × hH) :=
  (fX12_isWord h a0 1818326117).bind fun r318 =>
  if r318 = 0 then
    fX12_readRef_b329 h a0 0 (w32 (106 + l1)) (h a0 7)
  else
    fX12_readRef_b329 h a0 1 (w32 (106 + l1)) (h a0 7)
noncomputable def fX12_readRef_b291 (h : hH) (a0 l1 s0 s1 s2 : Int) : Option (Int × hH) :=
  (aput h s2 s1 s0).bind fun h291 =>
  (fX12_isWord h291 a0 1718971500).bind fun r296 =>
  if r296 = 0 then
    fX12_readRef_b306 h291 a0 l1
  else
    (fX12_next h291 a0).bind fun h303 =>
    fX12_readRef_b306 h303 a0 l1
noncomputable def fX12_readRef_b174 (h : hH) (a0 l1 l2 l3 l4 l5 s0 : Int) : Option (Int × hH) :=
  if s0 < 0 then
    (fX12_bad h a0 3).bind fun q183 =>
    some (q183.1, q183.2)
  else
    (fX12_next h a0).bind fun h188 =>
    (fX12_takesOn h188 a0 (w32 (88 + l1))).bind fun q196 =>
    if q196.1 = 0 then
      some (0, q196.2)
    else
      (fX12_takesOn q196.2 a0 (w32 (94 + l1))).bind fun q207 =>
      if q207.1 = 0 then
        some (0, q207.2)
      else
        (aput q207.2 (q207.2 a0 7) (w32 (58 + l1)) l2).bind fun h224 =>
        (aput h224 (h224 a0 7) (w32 (64 + l1)) l3).bind fun h234 =>
        (aput h234 (h234 a0 7) (w32 (70 + l1)) l4).bind fun h245 =>
        (aput h245 (h245 a0 7) (w32 (76 + l1)) l5).bind fun h256 =>
        (aput h256 (h256 a0 7) (w32 (82 + l1)) s0).bind fun h267 =>
        (fX12_isWord h267 a0 1718971500).bind fun r280 =>
        if r280 = 0 then
          fX12_readRef_b291 h267 a0 l1 0 (w32 (100 + l1)) (h267 a0 7)
        else
          fX12_readRef_b291 h267 a0 l1 1 (w32 (100 + l1)) (h267 a0 7)
noncomputable def fX12_readRef_b99 (h : hH) (a0 l1 l2 l3 l4 l5 : Int) : Option (Int × hH) :=
  (aget h (h a0 7) (w32 (4 + l5))).bind fun v121 =>
  (fX12_looksAt h a0 (w32 (24 + (w32 (4 * l5)))) v121).bind fun q122 =>
  if q122.1 = 0 then
    some (0, q122.2)
  else
    if l4 < 0 then
      (fX12_keyOf q122.2 a0 l5 (q122.2 a0 19) (-1)).bind fun r143 =>
      fX12_readRef_b174 q122.2 a0 l1 l2 l3 l4 l5 r143
    else
      if h a0 19 = q122.2 a0 19 then
        fX12_readRef_b174 q122.2 a0 l1 l2 l3 l4 l5 (-1)
      else
        (fX12_keyOf q122.2 a0 l5 (h a0 19) (q122.2 a0 19)).bind fun r171 =>
        fX12_readRef_b174 q122.2 a0 l1 l2 l3 l4 l5 r171
noncomputable def fX12_readRef (h : hH) (a0 : Int) : Option (Int × hH) :=
  (aget h (h a0 7) 2).bind fun v5 =>
  (fX12_next h a0).bind fun h8 =>
  (fX12_takesTable h8 a0).bind fun q12 =>
  if q12.1 = 0 then
    some (0, q12.2)
  else
    (fX12_takesCols q12.2 a0 (q12.2 a0 19) 1 0).bind fun q29 =>
    if q29.1 = 0 then
      some (0, q29.2)
    else
      (fX12_isWord q29.2 a0 29807).bind fun r52 =>
      if r52 = 0 then
        (fX12_bad q29.2 a0 1).bind fun q60 =>
        some (q60.1, q60.2)
      else
        (fX12_next q29.2 a0).bind fun h65 =>
        (fX12_takesTable h65 a0).bind fun q69 =>
        if q69.1 = 0 then
          some (0, q69.2)
        else
          if q29.2 a0 22 < 0 then
            fX12_readRef_b99 q69.2 a0 v5 (q12.2 a0 19) (q29.2 a0 21) (q29.2 a0 22) (q69.2 a0 19)
          else
            (fX12_takesCol q69.2 a0 (q69.2 a0 19)).bind fun q91 =>
            if q91.1 = 0 then
              some (0, q91.2)
            else
              fX12_readRef_b99 q91.2 a0 v5 (q12.2 a0 19) (q29.2 a0 21) (q29.2 a0 22) (q69.2 a0 19)
section M_X12_readRef
variable {p : Program} {l : Launch} {e : Env} {R : Room} {s : State} {m : MethodId} {args : Array Value} {below : List Frame} {meth : Method} {c : Code} {D : va_G} {G : gG} {A : Nat → Prop} {H0 : Heap} {n0 : Int} {x : Option vV × hH} {h : hH}
set_option maxRecDepth 100000 in
set_option maxHeartbeats 4000000 in
theorem oX12_readRef_b344 {a0 : Int} {K : Int × hH → Prop} (k0 : ∀ r, K (r) → x = (some (2, r.1), r.2)) {r : Int × hH} (hr : fX12_readRef_b344 h a0 = some r) (hk : K r) : Wq p l e R s m args below meth c D G A H0 true n0 M_X12_readRef x 0 0 344 [(0, (22, a0))] [] h := by
  unfold fX12_readRef_b344 at hr
  refine r_aload_n dX12_readRef_344 rfl 0 rfl (nl rfl) ?_
  refine r_get 12 7 (o := a0) (w := (50, h a0 7)) (T := TX12) (ref := "FollowingRefsModel") rfl (by decide) rfl (by decide) inlX12 (wsl_7 _ (List.mem_of_getElem? (i := 9) rfl)) rfl dX12_readRef_345 rfl ?_
  refine r_iconst dX12_readRef_348 (by decide) ?_
  refine r_dup2 dX12_readRef_349 (Nat.ne_of_beq_eq_false rfl) (Nat.ne_of_beq_eq_false rfl) ?_
  obtain ⟨v350, hg350, hr⟩ := bnd hr
  refine r_iald dX12_readRef_350 hg350 ?_
  refine r_iconst dX12_readRef_351 (by decide) ?_
  refine r_iadd dX12_readRef_352 ?_
  obtain ⟨h353, hg353, hr⟩ := bnd hr
  refine r_iast dX12_readRef_353 hg353 ?_
  refine r_iconst dX12_readRef_354 (by decide) ?_
  refine r_scast 0 (v := (0, 1)) (w := (2, 1)) rfl cz (fun _ => Or.inr rfl) (st' := [(2, 1)]) rfl ?_
  obtain rfl := Option.some.inj hr
  exact r_ret dX12_readRef_355 rfl (Or.inr ⟨rfl, rfl⟩) (k0 _ hk) ⟨rfl, rfl⟩
set_option maxRecDepth 100000 in
set_option maxHeartbeats 4000000 in
theorem oX12_readRef_b329 {a0 s0 s1 s2 : Int} {K : Int × hH → Prop} (k0 : ∀ r, K (r) → x = (some (2, r.1), r.2)) {r : Int × hH} (hr : fX12_readRef_b329 h a0 s0 s1 s2 = some r) (hk : K r) : Wq p l e R s m args below meth c D G A H0 true n0 M_X12_readRef x 0 0 329 [(0, (22, a0))] [(2, s0), (0, s1), (50, s2)] h := by
  unfold fX12_readRef_b329 at hr
  refine r_scast 0 (v := (2, s0)) (w := (0, s0)) rfl zc hTz (st' := [(0, s0), (0, s1), (50, s2)]) rfl ?_
  obtain ⟨h329, hg329, hr⟩ := bnd hr
  refine r_iast dX12_readRef_329 hg329 ?_
  refine r_aload_n dX12_readRef_330 rfl 0 rfl (nl rfl) ?_
  refine r_ldc2' (v := 1818326117) dX12_readRef_331 (by decide) (wsl_9 _ (List.mem_of_getElem? (i := 1) rfl)) ?_
  obtain ⟨r334, hg334, hr⟩ := bnd hr
  refine k_V (ci := 12) (o := a0) (T := TX12) (as := [(1, 1818326117)]) (rest := []) (X := (some (2, r334), h329)) (oX12_isWord hg334) gX12_isWord rfl (by decide) rfl (wsl_24 _ (List.mem_of_getElem? (i := 22) rfl)) rfl dX12_readRef_334 rfl ?_
  refine r_scast 0 (v := (2, r334)) (w := (0, r334)) rfl zc hTz (st' := [(0, r334)]) rfl ?_
  refine r_if_eq dX12_readRef_337 (tgt := 344) (by decide) (fun hc => ?_) (fun hc => ?_)
  · have hr := ifp hr hc
    exact oX12_readRef_b344 (K := K) (fun r z => k0 r z) hr hk
  · have hr := ifn hr hc
    refine r_aload_n dX12_readRef_340 rfl 0 rfl (nl rfl) ?_
    obtain ⟨h341, hg341, hr⟩ := bnd hr
    refine k_V (ci := 12) (o := a0) (T := TX12) (as := []) (rest := []) (X := (none, h341)) (oX12_next hg341) gX12_next rfl (by decide) rfl (wsl_24 _ (List.mem_of_getElem? (i := 0) rfl)) rfl dX12_readRef_341 rfl ?_
    exact oX12_readRef_b344 (K := K) (fun r z => k0 r z) hr hk
set_option maxRecDepth 100000 in
set_option maxHeartbeats 4000000 in
theorem oX12_readRef_b306 {a0 l1 : Int} {K : Int × hH → Prop} (k0 : ∀ r, K (r) → x = (some (2, r.1), r.2)) {r : Int × hH} (hr : fX12_readRef_b306 h a0 l1 = some r) (hk : K r) : Wq p l e R s m args below meth c D G A H0 true n0 M_X12_readRef x 0 0 306 [(0, (22, a0)), (1, (0, l1))] [] h := by
  unfold fX12_readRef_b306 at hr
  refine r_aload_n dX12_readRef_306 rfl 0 rfl (nl rfl) ?_
  refine r_get 12 7 (o := a0) (w := (50, h a0 7)) (T := TX12) (ref := "FollowingRefsModel") rfl (by decide) rfl (by decide) inlX12 (wsl_7 _ (List.mem_of_getElem? (i := 9) rfl)) rfl dX12_readRef_307 rfl ?_
  refine r_bipush dX12_readRef_310 (by decide) (by decide) ?_
  refine r_iload_n dX12_readRef_312 rfl 1 rfl (Or.inl rfl) ?_
  refine r_iadd dX12_readRef_313 ?_
  refine r_aload_n dX12_readRef_314 rfl 0 rfl (nl rfl) ?_
  refine r_ldc2' (v := 1818326117) dX12_readRef_315 (by decide) (wsl_9 _ (List.mem_of_getElem? (i := 1) rfl)) ?_
  obtain ⟨r318, hg318, hr⟩ := bnd hr
  refine k_V (ci := 12) (o := a0) (T := TX12) (as := [(1, 1818326117)]) (rest := [(0, w32 (106 + l1)), (50, h a0 7)]) (X := (some (2, r318), h)) (oX12_isWord hg318) gX12_isWord rfl (by decide) rfl (wsl_24 _ (List.mem_of_getElem? (i := 22) rfl)) rfl dX12_readRef_318 rfl ?_
  refine r_scast 0 (v := (2, r318)) (w := (0, r318)) rfl zc hTz (st' := [(0, r318), (0, w32 (106 + l1)), (50, h a0 7)]) rfl ?_
  refine r_if_eq dX12_readRef_321 (tgt := 328) (by decide) (fun hc => ?_) (fun hc => ?_)
  · have hr := ifp hr hc
    refine r_iconst dX12_readRef_328 (by decide) ?_
    refine r_sub [0] (lv' := [(0, (22, a0))]) rfl ?_
    refine r_scast 0 (v := (0, 0)) (w := (2, 0)) rfl cz (fun _ => Or.inl rfl) (st' := [(2, 0), (0, w32 (106 + l1)), (50, h a0 7)]) rfl ?_
    exact oX12_readRef_b329 (K := K) (fun r z => k0 r z) hr hk
  · have hr := ifn hr hc
    refine r_iconst dX12_readRef_324 (by decide) ?_
    refine r_goto dX12_readRef_325 (tgt := 329) (by decide) ?_
    refine r_sub [0] (lv' := [(0, (22, a0))]) rfl ?_
    refine r_scast 0 (v := (0, 1)) (w := (2, 1)) rfl cz (fun _ => Or.inr rfl) (st' := [(2, 1), (0, w32 (106 + l1)), (50, h a0 7)]) rfl ?_
    exact oX12_readRef_b329 (K := K) (fun r z => k0 r z) hr hk
set_option maxRecDepth 100000 in
set_option maxHeartbeats 4000000 in
theorem oX12_readRef_b291 {a0 l1 s0 s1 s2 : Int} {K : Int × hH → Prop} (k0 : ∀ r, K (r) → x = (some (2, r.1), r.2)) {r : Int × hH} (hr : fX12_readRef_b291 h a0 l1 s0 s1 s2 = some r) (hk : K r) : Wq p l e R s m args below meth c D G A H0 true n0 M_X12_readRef x 0 0 291 [(0, (22, a0)), (1, (0, l1))] [(2, s0), (0, s1), (50, s2)] h := by
  unfold fX12_readRef_b291 at hr
  refine r_scast 0 (v := (2, s0)) (w := (0, s0)) rfl zc hTz (st' := [(0, s0), (0, s1), (50, s2)]) rfl ?_
  obtain ⟨h291, hg291, hr⟩ := bnd hr
  refine r_iast dX12_readRef_291 hg291 ?_
  refine r_aload_n dX12_readRef_292 rfl 0 rfl (nl rfl) ?_
  refine r_ldc2' (v := 1718971500) dX12_readRef_293 (by decide) (wsl_9 _ (List.mem_of_getElem? (i := 0) rfl)) ?_
  obtain ⟨r296, hg296, hr⟩ := bnd hr
  refine k_V (ci := 12) (o := a0) (T := TX12) (as := [(1, 1718971500)]) (rest := []) (X := (some (2, r296), h291)) (oX12_isWord hg296) gX12_isWord rfl (by decide) rfl (wsl_24 _ (List.mem_of_getElem? (i := 22) rfl)) rfl dX12_readRef_296 rfl ?_
  refine r_scast 0 (v := (2, r296)) (w := (0, r296)) rfl zc hTz (st' := [(0, r296)]) rfl ?_
  refine r_if_eq dX12_readRef_299 (tgt := 306) (by decide) (fun hc => ?_) (fun hc => ?_)
  · have hr := ifp hr hc
    exact oX12_readRef_b306 (K := K) (fun r z => k0 r z) hr hk
  · have hr := ifn hr hc
    refine r_aload_n dX12_readRef_302 rfl 0 rfl (nl rfl) ?_
    obtain ⟨h303, hg303, hr⟩ := bnd hr
    refine k_V (ci := 12) (o := a0) (T := TX12) (as := []) (rest := []) (X := (none, h303)) (oX12_next hg303) gX12_next rfl (by decide) rfl (wsl_24 _ (List.mem_of_getElem? (i := 0) rfl)) rfl dX12_readRef_303 rfl ?_
    exact oX12_readRef_b306 (K := K) (fun r z => k0 r z) hr hk
set_option maxRecDepth 100000 in
set_option maxHeartbeats 4000000 in
theorem oX12_readRef_b174 {a0 l1 l2 l3 l4 l5 s0 : Int} {K : Int × hH → Prop} (k0 : ∀ r, K (r) → x = (some (2, r.1), r.2)) {r : Int × hH} (hr : fX12_readRef_b174 h a0 l1 l2 l3 l4 l5 s0 = some r) (hk : K r) : Wq p l e R s m args below meth c D G A H0 true n0 M_X12_readRef x 0 0 174 [(0, (22, a0)), (1, (0, l1)), (2, (0, l2)), (3, (0, l3)), (4, (0, l4)), (5, (0, l5))] [(0, s0)] h := by
  unfold fX12_readRef_b174 at hr
  refine r_istore dX12_readRef_174 (Or.inl rfl) (by decide) (lv' := [(7, (0, s0)), (0, (22, a0)), (1, (0, l1)), (2, (0, l2)), (3, (0, l3)), (4, (0, l4)), (5, (0, l5))]) rfl ?_
  refine r_iload dX12_readRef_176 0 rfl (Or.inl rfl) ?_
  refine r_if_ge dX12_readRef_178 (tgt := 187) (by decide) (fun hc => ?_) (fun hc => ?_)
  · have hr := ifn hr hc
    refine r_aload_n dX12_readRef_187 rfl 1 rfl (nl rfl) ?_
    obtain ⟨h188, hg188, hr⟩ := bnd hr
    refine k_V (ci := 12) (o := a0) (T := TX12) (as := []) (rest := []) (X := (none, h188)) (oX12_next hg188) gX12_next rfl (by decide) rfl (wsl_24 _ (List.mem_of_getElem? (i := 0) rfl)) rfl dX12_readRef_188 rfl ?_
    refine r_aload_n dX12_readRef_191 rfl 1 rfl (nl rfl) ?_
    refine r_bipush dX12_readRef_192 (by decide) (by decide) ?_
    refine r_iload_n dX12_readRef_194 rfl 2 rfl (Or.inl rfl) ?_
    refine r_iadd dX12_readRef_195 ?_
    obtain ⟨q196, hg196, hr⟩ := bnd hr
    refine k_V (ci := 12) (o := a0) (T := TX12) (as := [(0, w32 (88 + l1))]) (rest := []) (X := (some (2, q196.1), q196.2)) (oX12_takesOn hg196) gX12_takesOn rfl (by decide) rfl (wsl_27 _ (List.mem_of_getElem? (i := 9) rfl)) rfl dX12_readRef_196 rfl ?_
    refine r_scast 0 (v := (2, q196.1)) (w := (0, q196.1)) rfl zc hTz (st' := [(0, q196.1)]) rfl ?_
    refine r_if_eq dX12_readRef_199 (tgt := 213) (by decide) (fun hc => ?_) (fun hc => ?_)
    · have hr := ifp hr hc
      refine r_iconst dX12_readRef_213 (by decide) ?_
      refine r_scast 0 (v := (0, 0)) (w := (2, 0)) rfl cz (fun _ => Or.inl rfl) (st' := [(2, 0)]) rfl ?_
      obtain rfl := Option.some.inj hr
      exact r_ret dX12_readRef_214 rfl (Or.inr ⟨rfl, rfl⟩) (k0 _ hk) ⟨rfl, rfl⟩
    · have hr := ifn hr hc
      refine r_aload_n dX12_readRef_202 rfl 1 rfl (nl rfl) ?_
      refine r_bipush dX12_readRef_203 (by decide) (by decide) ?_
      refine r_iload_n dX12_readRef_205 rfl 2 rfl (Or.inl rfl) ?_
      refine r_iadd dX12_readRef_206 ?_
      obtain ⟨q207, hg207, hr⟩ := bnd hr
      refine k_V (ci := 12) (o := a0) (T := TX12) (as := [(0, w32 (94 + l1))]) (rest := []) (X := (some (2, q207.1), q207.2)) (oX12_takesOn hg207) gX12_takesOn rfl (by decide) rfl (wsl_27 _ (List.mem_of_getElem? (i := 9) rfl)) rfl dX12_readRef_207 rfl ?_
      refine r_scast 0 (v := (2, q207.1)) (w := (0, q207.1)) rfl zc hTz (st' := [(0, q207.1)]) rfl ?_
      refine r_if_ne dX12_readRef_210 (tgt := 215) (by decide) (fun hc => ?_) (fun hc => ?_)
      · have hr := ifn hr hc
        refine r_aload_n dX12_readRef_215 rfl 1 rfl (nl rfl) ?_
        refine r_get 12 7 (o := a0) (w := (50, q207.2 a0 7)) (T := TX12) (ref := "FollowingRefsModel") rfl (by decide) rfl (by decide) inlX12 (wsl_7 _ (List.mem_of_getElem? (i := 9) rfl)) rfl dX12_readRef_216 rfl ?_
        refine r_bipush dX12_readRef_219 (by decide) (by decide) ?_
        refine r_iload_n dX12_readRef_221 rfl 2 rfl (Or.inl rfl) ?_
        refine r_iadd dX12_readRef_222 ?_
        refine r_iload_n dX12_readRef_223 rfl 3 rfl (Or.inl rfl) ?_
        obtain ⟨h224, hg224, hr⟩ := bnd hr
        refine r_iast dX12_readRef_224 hg224 ?_
        refine r_aload_n dX12_readRef_225 rfl 1 rfl (nl rfl) ?_
        refine r_get 12 7 (o := a0) (w := (50, h224 a0 7)) (T := TX12) (ref := "FollowingRefsModel") rfl (by decide) rfl (by decide) inlX12 (wsl_7 _ (List.mem_of_getElem? (i := 9) rfl)) rfl dX12_readRef_226 rfl ?_
        refine r_bipush dX12_readRef_229 (by decide) (by decide) ?_
        refine r_iload_n dX12_readRef_231 rfl 2 rfl (Or.inl rfl) ?_
        refine r_iadd dX12_readRef_232 ?_
        refine r_iload_n dX12_readRef_233 rfl 4 rfl (Or.inl rfl) ?_
        obtain ⟨h234, hg234, hr⟩ := bnd hr
        refine r_iast dX12_readRef_234 hg234 ?_
        refine r_aload_n dX12_readRef_235 rfl 1 rfl (nl rfl) ?_
        refine r_get 12 7 (o := a0) (w := (50, h234 a0 7)) (T := TX12) (ref := "FollowingRefsModel") rfl (by decide) rfl (by decide) inlX12 (wsl_7 _ (List.mem_of_getElem? (i := 9) rfl)) rfl dX12_readRef_236 rfl ?_
        refine r_bipush dX12_readRef_239 (by decide) (by decide) ?_
        refine r_iload_n dX12_readRef_241 rfl 2 rfl (Or.inl rfl) ?_
        refine r_iadd dX12_readRef_242 ?_
        refine r_iload dX12_readRef_243 5 rfl (Or.inl rfl) ?_
        obtain ⟨h245, hg245, hr⟩ := bnd hr
        refine r_iast dX12_readRef_245 hg245 ?_
        refine r_aload_n dX12_readRef_246 rfl 1 rfl (nl rfl) ?_
        refine r_get 12 7 (o := a0) (w := (50, h245 a0 7)) (T := TX12) (ref := "FollowingRefsModel") rfl (by decide) rfl (by decide) inlX12 (wsl_7 _ (List.mem_of_getElem? (i := 9) rfl)) rfl dX12_readRef_247 rfl ?_
        refine r_bipush dX12_readRef_250 (by decide) (by decide) ?_
        refine r_iload_n dX12_readRef_252 rfl 2 rfl (Or.inl rfl) ?_
        refine r_iadd dX12_readRef_253 ?_
        refine r_iload dX12_readRef_254 6 rfl (Or.inl rfl) ?_
        obtain ⟨h256, hg256, hr⟩ := bnd hr
        refine r_iast dX12_readRef_256 hg256 ?_
        refine r_aload_n dX12_readRef_257 rfl 1 rfl (nl rfl) ?_
        refine r_get 12 7 (o := a0) (w := (50, h256 a0 7)) (T := TX12) (ref := "FollowingRefsModel") rfl (by decide) rfl (by decide) inlX12 (wsl_7 _ (List.mem_of_getElem? (i := 9) rfl)) rfl dX12_readRef_258 rfl ?_
        refine r_bipush dX12_readRef_261 (by decide) (by decide) ?_
        refine r_iload_n dX12_readRef_263 rfl 2 rfl (Or.inl rfl) ?_
        refine r_iadd dX12_readRef_264 ?_
        refine r_iload dX12_readRef_265 0 rfl (Or.inl rfl) ?_
        obtain ⟨h267, hg267, hr⟩ := bnd hr
        refine r_iast dX12_readRef_267 hg267 ?_
        refine r_aload_n dX12_readRef_268 rfl 1 rfl (nl rfl) ?_
        refine r_get 12 7 (o := a0) (w := (50, h267 a0 7)) (T := TX12) (ref := "FollowingRefsModel") rfl (by decide) rfl (by decide) inlX12 (wsl_7 _ (List.mem_of_getElem? (i := 9) rfl)) rfl dX12_readRef_269 rfl ?_
        refine r_bipush dX12_readRef_272 (by decide) (by decide) ?_
        refine r_iload_n dX12_readRef_274 rfl 2 rfl (Or.inl rfl) ?_
        refine r_iadd dX12_readRef_275 ?_
        refine r_aload_n dX12_readRef_276 rfl 1 rfl (nl rfl) ?_
        refine r_ldc2' (v := 1718971500) dX12_readRef_277 (by decide) (wsl_9 _ (List.mem_of_getElem? (i := 0) rfl)) ?_
        obtain ⟨r280, hg280, hr⟩ := bnd hr
        refine k_V (ci := 12) (o := a0) (T := TX12) (as := [(1, 1718971500)]) (rest := [(0, w32 (100 + l1)), (50, h267 a0 7)]) (X := (some (2, r280), h267)) (oX12_isWord hg280) gX12_isWord rfl (by decide) rfl (wsl_24 _ (List.mem_of_getElem? (i := 22) rfl)) rfl dX12_readRef_280 rfl ?_
        refine r_scast 0 (v := (2, r280)) (w := (0, r280)) rfl zc hTz (st' := [(0, r280), (0, w32 (100 + l1)), (50, h267 a0 7)]) rfl ?_
        refine r_if_eq dX12_readRef_283 (tgt := 290) (by decide) (fun hc => ?_) (fun hc => ?_)
        · have hr := ifp hr hc
          refine r_iconst dX12_readRef_290 (by decide) ?_
          refine r_sub [1, 2] (lv' := [(0, (22, a0)), (1, (0, l1))]) rfl ?_
          refine r_scast 0 (v := (0, 0)) (w := (2, 0)) rfl cz (fun _ => Or.inl rfl) (st' := [(2, 0), (0, w32 (100 + l1)), (50, h267 a0 7)]) rfl ?_
          exact oX12_readRef_b291 (K := K) (fun r z => k0 r z) hr hk
        · have hr := ifn hr hc
          refine r_iconst dX12_readRef_286 (by decide) ?_
          refine r_goto dX12_readRef_287 (tgt := 291) (by decide) ?_
          refine r_sub [1, 2] (lv' := [(0, (22, a0)), (1, (0, l1))]) rfl ?_
          refine r_scast 0 (v := (0, 1)) (w := (2, 1)) rfl cz (fun _ => Or.inr rfl) (st' := [(2, 1), (0, w32 (100 + l1)), (50, h267 a0 7)]) rfl ?_
          exact oX12_readRef_b291 (K := K) (fun r z => k0 r z) hr hk
      · have hr := ifp hr hc
        refine r_iconst dX12_readRef_213 (by decide) ?_
        refine r_scast 0 (v := (0, 0)) (w := (2, 0)) rfl cz (fun _ => Or.inl rfl) (st' := [(2, 0)]) rfl ?_
        obtain rfl := Option.some.inj hr
        exact r_ret dX12_readRef_214 rfl (Or.inr ⟨rfl, rfl⟩) (k0 _ hk) ⟨rfl, rfl⟩
  · have hr := ifp hr hc
    refine r_aload_n dX12_readRef_181 rfl 1 rfl (nl rfl) ?_
    refine r_iconst dX12_readRef_182 (by decide) ?_
    obtain ⟨q183, hg183, hr⟩ := bnd hr
    refine k_V (ci := 12) (o := a0) (T := TX12) (as := [(0, 3)]) (rest := []) (X := (some (2, q183.1), q183.2)) (oX12_bad hg183) gX12_bad rfl (by decide) rfl (wsl_25 _ (List.mem_of_getElem? (i := 6) rfl)) rfl dX12_readRef_183 rfl ?_
    obtain rfl := Option.some.inj hr
    exact r_ret dX12_readRef_186 rfl (Or.inr ⟨rfl, rfl⟩) (k0 _ hk) ⟨rfl, rfl⟩
set_option maxRecDepth 100000 in
set_option maxHeartbeats 4000000 in
theorem oX12_readRef_b99 {a0 l1 l2 l3 l4 l5 : Int} {K : Int × hH → Prop} (k0 : ∀ r, K (r) → x = (some (2, r.1), r.2)) {r : Int × hH} (hr : fX12_readRef_b99 h a0 l1 l2 l3 l4 l5 = some r) (hk : K r) : Wq p l e R s m args below meth c D G A H0 true n0 M_X12_readRef x 0 0 99 [(0, (22, a0)), (1, (0, l1)), (2, (0, l2)), (3, (0, l3)), (4, (0, l4)), (5, (0, l5))] [] h := by
  unfold fX12_readRef_b99 at hr
  refine r_aload_n dX12_readRef_99 rfl 0 rfl (nl rfl) ?_
  refine r_get 12 19 (o := a0) (w := (0, h a0 19)) (T := TX12) (ref := "FollowingRefsModel") rfl (by decide) rfl (by decide) inlX12 (wsl_26 _ (List.mem_of_getElem? (i := 2) rfl)) rfl dX12_readRef_100 rfl ?_
  refine r_istore dX12_readRef_103 (Or.inl rfl) (by decide) (lv' := [(6, (0, h a0 19)), (0, (22, a0)), (1, (0, l1)), (2, (0, l2)), (3, (0, l3)), (4, (0, l4)), (5, (0, l5))]) rfl ?_
  refine r_aload_n dX12_readRef_105 rfl 1 rfl (nl rfl) ?_
  refine r_bipush dX12_readRef_106 (by decide) (by decide) ?_
  refine r_iconst dX12_readRef_108 (by decide) ?_
  refine r_iload dX12_readRef_109 6 rfl (Or.inl rfl) ?_
  refine r_imul dX12_readRef_111 ?_
  refine r_iadd dX12_readRef_112 ?_
  refine r_aload_n dX12_readRef_113 rfl 1 rfl (nl rfl) ?_
  refine r_get 12 7 (o := a0) (w := (50, h a0 7)) (T := TX12) (ref := "FollowingRefsModel") rfl (by decide) rfl (by decide) inlX12 (wsl_7 _ (List.mem_of_getElem? (i := 9) rfl)) rfl dX12_readRef_114 rfl ?_
  refine r_iconst dX12_readRef_117 (by decide) ?_
  refine r_iload dX12_readRef_118 6 rfl (Or.inl rfl) ?_
  refine r_iadd dX12_readRef_120 ?_
  obtain ⟨v121, hg121, hr⟩ := bnd hr
  refine r_iald dX12_readRef_121 hg121 ?_
  obtain ⟨q122, hg122, hr⟩ := bnd hr
  refine k_V (ci := 12) (o := a0) (T := TX12) (as := [(0, w32 (24 + (w32 (4 * l5)))), (0, v121)]) (rest := []) (X := (some (2, q122.1), q122.2)) (oX12_looksAt hg122) gX12_looksAt rfl (by decide) rfl (wsl_26 _ (List.mem_of_getElem? (i := 13) rfl)) rfl dX12_readRef_122 rfl ?_
  refine r_scast 0 (v := (2, q122.1)) (w := (0, q122.1)) rfl zc hTz (st' := [(0, q122.1)]) rfl ?_
  refine r_if_ne dX12_readRef_125 (tgt := 130) (by decide) (fun hc => ?_) (fun hc => ?_)
  · have hr := ifn hr hc
    refine r_iload dX12_readRef_130 5 rfl (Or.inl rfl) ?_
    refine r_if_ge dX12_readRef_132 (tgt := 149) (by decide) (fun hc => ?_) (fun hc => ?_)
    · have hr := ifn hr hc
      refine r_iload dX12_readRef_149 0 rfl (Or.inl rfl) ?_
      refine r_aload_n dX12_readRef_151 rfl 1 rfl (nl rfl) ?_
      refine r_get 12 19 (o := a0) (w := (0, q122.2 a0 19)) (T := TX12) (ref := "FollowingRefsModel") rfl (by decide) rfl (by decide) inlX12 (wsl_26 _ (List.mem_of_getElem? (i := 2) rfl)) rfl dX12_readRef_152 rfl ?_
      refine r_icmp_ne dX12_readRef_155 (tgt := 162) (by decide) (fun hc => ?_) (fun hc => ?_)
      · have hr := ifn hr hc
        refine r_aload_n dX12_readRef_162 rfl 1 rfl (nl rfl) ?_
        refine r_iload dX12_readRef_163 6 rfl (Or.inl rfl) ?_
        refine r_iload dX12_readRef_165 0 rfl (Or.inl rfl) ?_
        refine r_aload_n dX12_readRef_167 rfl 1 rfl (nl rfl) ?_
        refine r_get 12 19 (o := a0) (w := (0, q122.2 a0 19)) (T := TX12) (ref := "FollowingRefsModel") rfl (by decide) rfl (by decide) inlX12 (wsl_26 _ (List.mem_of_getElem? (i := 2) rfl)) rfl dX12_readRef_168 rfl ?_
        obtain ⟨r171, hg171, hr⟩ := bnd hr
        refine k_V (ci := 12) (o := a0) (T := TX12) (as := [(0, l5), (0, h a0 19), (0, q122.2 a0 19)]) (rest := []) (X := (some (0, r171), q122.2)) (oX12_keyOf hg171) gX12_keyOf rfl (by decide) rfl (wsl_27 _ (List.mem_of_getElem? (i := 5) rfl)) rfl dX12_readRef_171 rfl ?_
        refine r_sub [1, 2, 3, 4, 5, 6] (lv' := [(0, (22, a0)), (1, (0, l1)), (2, (0, l2)), (3, (0, l3)), (4, (0, l4)), (5, (0, l5))]) rfl ?_
        exact oX12_readRef_b174 (K := K) (fun r z => k0 r z) hr hk
      · have hr := ifp hr hc
        refine r_iconst dX12_readRef_158 (by decide) ?_
        refine r_goto dX12_readRef_159 (tgt := 174) (by decide) ?_
        refine r_sub [1, 2, 3, 4, 5, 6] (lv' := [(0, (22, a0)), (1, (0, l1)), (2, (0, l2)), (3, (0, l3)), (4, (0, l4)), (5, (0, l5))]) rfl ?_
        exact oX12_readRef_b174 (K := K) (fun r z => k0 r z) hr hk
    · have hr := ifp hr hc
      refine r_aload_n dX12_readRef_135 rfl 1 rfl (nl rfl) ?_
      refine r_iload dX12_readRef_136 6 rfl (Or.inl rfl) ?_
      refine r_aload_n dX12_readRef_138 rfl 1 rfl (nl rfl) ?_
      refine r_get 12 19 (o := a0) (w := (0, q122.2 a0 19)) (T := TX12) (ref := "FollowingRefsModel") rfl (by decide) rfl (by decide) inlX12 (wsl_26 _ (List.mem_of_getElem? (i := 2) rfl)) rfl dX12_readRef_139 rfl ?_
      refine r_iconst dX12_readRef_142 (by decide) ?_
      obtain ⟨r143, hg143, hr⟩ := bnd hr
      refine k_V (ci := 12) (o := a0) (T := TX12) (as := [(0, l5), (0, q122.2 a0 19), (0, -1)]) (rest := []) (X := (some (0, r143), q122.2)) (oX12_keyOf hg143) gX12_keyOf rfl (by decide) rfl (wsl_27 _ (List.mem_of_getElem? (i := 5) rfl)) rfl dX12_readRef_143 rfl ?_
      refine r_goto dX12_readRef_146 (tgt := 174) (by decide) ?_
      refine r_sub [1, 2, 3, 4, 5, 6] (lv' := [(0, (22, a0)), (1, (0, l1)), (2, (0, l2)), (3, (0, l3)), (4, (0, l4)), (5, (0, l5))]) rfl ?_
      exact oX12_readRef_b174 (K := K) (fun r z => k0 r z) hr hk
  · have hr := ifp hr hc
    refine r_iconst dX12_readRef_128 (by decide) ?_
    refine r_scast 0 (v := (0, 0)) (w := (2, 0)) rfl cz (fun _ => Or.inl rfl) (st' := [(2, 0)]) rfl ?_
    obtain rfl := Option.some.inj hr
    exact r_ret dX12_readRef_129 rfl (Or.inr ⟨rfl, rfl⟩) (k0 _ hk) ⟨rfl, rfl⟩
set_option maxRecDepth 100000 in
set_option maxHeartbeats 4000000 in
theorem oX12_readRef_b0 {a0 : Int} {K : Int × hH → Prop} (k0 : ∀ r, K (r) → x = (some (2, r.1), r.2)) {r : Int × hH} (hr : fX12_readRef h a0 = some r) (hk : K r) : Wq p l e R s m args below meth c D G A H0 true n0 M_X12_readRef x 0 0 0 [(0, (22, a0))] [] h := by
  unfold fX12_readRef at hr
  refine r_aload_n dX12_readRef_0 rfl 0 rfl (nl rfl) ?_
  refine r_get 12 7 (o := a0) (w := (50, h a0 7)) (T := TX12) (ref := "FollowingRefsModel") rfl (by decide) rfl (by decide) inlX12 (wsl_7 _ (List.mem_of_getElem? (i := 9) rfl)) rfl dX12_readRef_1 rfl ?_
  refine r_iconst dX12_readRef_4 (by decide) ?_
  obtain ⟨v5, hg5, hr⟩ := bnd hr
  refine r_iald dX12_readRef_5 hg5 ?_
  refine r_istore_n dX12_readRef_6 rfl (Or.inl rfl) (by decide) (lv' := [(1, (0, v5)), (0, (22, a0))]) rfl ?_
  refine r_aload_n dX12_readRef_7 rfl 1 rfl (nl rfl) ?_
  obtain ⟨h8, hg8, hr⟩ := bnd hr
  refine k_V (ci := 12) (o := a0) (T := TX12) (as := []) (rest := []) (X := (none, h8)) (oX12_next hg8) gX12_next rfl (by decide) rfl (wsl_24 _ (List.mem_of_getElem? (i := 0) rfl)) rfl dX12_readRef_8 rfl ?_
  refine r_aload_n dX12_readRef_11 rfl 1 rfl (nl rfl) ?_
  obtain ⟨q12, hg12, hr⟩ := bnd hr
  refine k_V (ci := 12) (o := a0) (T := TX12) (as := []) (rest := []) (X := (some (2, q12.1), q12.2)) (oX12_takesTable hg12) gX12_takesTable rfl (by decide) rfl (wsl_26 _ (List.mem_of_getElem? (i := 5) rfl)) rfl dX12_readRef_12 rfl ?_
  refine r_scast 0 (v := (2, q12.1)) (w := (0, q12.1)) rfl zc hTz (st' := [(0, q12.1)]) rfl ?_
  refine r_if_ne dX12_readRef_15 (tgt := 20) (by decide) (fun hc => ?_) (fun hc => ?_)
  · have hr := ifn hr hc
    refine r_aload_n dX12_readRef_20 rfl 1 rfl (nl rfl) ?_
    refine r_get 12 19 (o := a0) (w := (0, q12.2 a0 19)) (T := TX12) (ref := "FollowingRefsModel") rfl (by decide) rfl (by decide) inlX12 (wsl_26 _ (List.mem_of_getElem? (i := 2) rfl)) rfl dX12_readRef_21 rfl ?_
    refine r_istore_n dX12_readRef_24 rfl (Or.inl rfl) (by decide) (lv' := [(2, (0, q12.2 a0 19)), (1, (0, v5)), (0, (22, a0))]) rfl ?_
    refine r_aload_n dX12_readRef_25 rfl 2 rfl (nl rfl) ?_
    refine r_iload_n dX12_readRef_26 rfl 0 rfl (Or.inl rfl) ?_
    refine r_iconst dX12_readRef_27 (by decide) ?_
    refine r_iconst dX12_readRef_28 (by decide) ?_
    refine r_scast 1 (v := (0, 1)) (w := (2, 1)) rfl cz (fun _ => Or.inr rfl) (st' := [(0, 0), (2, 1), (0, q12.2 a0 19), (22, a0)]) rfl ?_
    refine r_scast 0 (v := (0, 0)) (w := (2, 0)) rfl cz (fun _ => Or.inl rfl) (st' := [(2, 0), (2, 1), (0, q12.2 a0 19), (22, a0)]) rfl ?_
    obtain ⟨q29, hg29, hr⟩ := bnd hr
    refine k_V (ci := 12) (o := a0) (T := TX12) (as := [(0, q12.2 a0 19), (2, 1), (2, 0)]) (rest := []) (X := (some (2, q29.1), q29.2)) (oX12_takesCols hg29) gX12_takesCols rfl (by decide) rfl (wsl_26 _ (List.mem_of_getElem? (i := 17) rfl)) rfl dX12_readRef_29 rfl ?_
    refine r_scast 0 (v := (2, q29.1)) (w := (0, q29.1)) rfl zc hTz (st' := [(0, q29.1)]) rfl ?_
    refine r_if_ne dX12_readRef_32 (tgt := 37) (by decide) (fun hc => ?_) (fun hc => ?_)
    · have hr := ifn hr hc
      refine r_aload_n dX12_readRef_37 rfl 2 rfl (nl rfl) ?_
      refine r_get 12 21 (o := a0) (w := (0, q29.2 a0 21)) (T := TX12) (ref := "FollowingRefsModel") rfl (by decide) rfl (by decide) inlX12 (wsl_26 _ (List.mem_of_getElem? (i := 3) rfl)) rfl dX12_readRef_38 rfl ?_
      refine r_istore_n dX12_readRef_41 rfl (Or.inl rfl) (by decide) (lv' := [(3, (0, q29.2 a0 21)), (2, (0, q12.2 a0 19)), (1, (0, v5)), (0, (22, a0))]) rfl ?_
      refine r_aload_n dX12_readRef_42 rfl 3 rfl (nl rfl) ?_
      refine r_get 12 22 (o := a0) (w := (0, q29.2 a0 22)) (T := TX12) (ref := "FollowingRefsModel") rfl (by decide) rfl (by decide) inlX12 (wsl_26 _ (List.mem_of_getElem? (i := 4) rfl)) rfl dX12_readRef_43 rfl ?_
      refine r_istore dX12_readRef_46 (Or.inl rfl) (by decide) (lv' := [(4, (0, q29.2 a0 22)), (3, (0, q29.2 a0 21)), (2, (0, q12.2 a0 19)), (1, (0, v5)), (0, (22, a0))]) rfl ?_
      refine r_aload_n dX12_readRef_48 rfl 4 rfl (nl rfl) ?_
      refine r_ldc2' (v := 29807) dX12_readRef_49 (by decide) (wsl_8 _ (List.mem_of_getElem? (i := 19) rfl)) ?_
      obtain ⟨r52, hg52, hr⟩ := bnd hr
      refine k_V (ci := 12) (o := a0) (T := TX12) (as := [(1, 29807)]) (rest := []) (X := (some (2, r52), q29.2)) (oX12_isWord hg52) gX12_isWord rfl (by decide) rfl (wsl_24 _ (List.mem_of_getElem? (i := 22) rfl)) rfl dX12_readRef_52 rfl ?_
      refine r_scast 0 (v := (2, r52)) (w := (0, r52)) rfl zc hTz (st' := [(0, r52)]) rfl ?_
      refine r_if_ne dX12_readRef_55 (tgt := 64) (by decide) (fun hc => ?_) (fun hc => ?_)
      · have hr := ifn hr hc
        refine r_aload_n dX12_readRef_64 rfl 4 rfl (nl rfl) ?_
        obtain ⟨h65, hg65, hr⟩ := bnd hr
        refine k_V (ci := 12) (o := a0) (T := TX12) (as := []) (rest := []) (X := (none, h65)) (oX12_next hg65) gX12_next rfl (by decide) rfl (wsl_24 _ (List.mem_of_getElem? (i := 0) rfl)) rfl dX12_readRef_65 rfl ?_
        refine r_aload_n dX12_readRef_68 rfl 4 rfl (nl rfl) ?_
        obtain ⟨q69, hg69, hr⟩ := bnd hr
        refine k_V (ci := 12) (o := a0) (T := TX12) (as := []) (rest := []) (X := (some (2, q69.1), q69.2)) (oX12_takesTable hg69) gX12_takesTable rfl (by decide) rfl (wsl_26 _ (List.mem_of_getElem? (i := 5) rfl)) rfl dX12_readRef_69 rfl ?_
        refine r_scast 0 (v := (2, q69.1)) (w := (0, q69.1)) rfl zc hTz (st' := [(0, q69.1)]) rfl ?_
        refine r_if_ne dX12_readRef_72 (tgt := 77) (by decide) (fun hc => ?_) (fun hc => ?_)
        · have hr := ifn hr hc
          refine r_aload_n dX12_readRef_77 rfl 4 rfl (nl rfl) ?_
          refine r_get 12 19 (o := a0) (w := (0, q69.2 a0 19)) (T := TX12) (ref := "FollowingRefsModel") rfl (by decide) rfl (by decide) inlX12 (wsl_26 _ (List.mem_of_getElem? (i := 2) rfl)) rfl dX12_readRef_78 rfl ?_
          refine r_istore dX12_readRef_81 (Or.inl rfl) (by decide) (lv' := [(5, (0, q69.2 a0 19)), (4, (0, q29.2 a0 22)), (3, (0, q29.2 a0 21)), (2, (0, q12.2 a0 19)), (1, (0, v5)), (0, (22, a0))]) rfl ?_
          refine r_iload dX12_readRef_83 1 rfl (Or.inl rfl) ?_
          refine r_if_lt dX12_readRef_85 (tgt := 99) (by decide) (fun hc => ?_) (fun hc => ?_)
          · have hr := ifp hr hc
            refine r_sub [5, 4, 3, 2, 1, 0] (lv' := [(0, (22, a0)), (1, (0, v5)), (2, (0, q12.2 a0 19)), (3, (0, q29.2 a0 21)), (4, (0, q29.2 a0 22)), (5, (0, q69.2 a0 19))]) rfl ?_
            exact oX12_readRef_b99 (K := K) (fun r z => k0 r z) hr hk
          · have hr := ifn hr hc
            refine r_aload_n dX12_readRef_88 rfl 5 rfl (nl rfl) ?_
            refine r_iload dX12_readRef_89 0 rfl (Or.inl rfl) ?_
            obtain ⟨q91, hg91, hr⟩ := bnd hr
            refine k_V (ci := 12) (o := a0) (T := TX12) (as := [(0, q69.2 a0 19)]) (rest := []) (X := (some (2, q91.1), q91.2)) (oX12_takesCol hg91) gX12_takesCol rfl (by decide) rfl (wsl_26 _ (List.mem_of_getElem? (i := 21) rfl)) rfl dX12_readRef_91 rfl ?_
            refine r_scast 0 (v := (2, q91.1)) (w := (0, q91.1)) rfl zc hTz (st' := [(0, q91.1)]) rfl ?_
            refine r_if_ne dX12_readRef_94 (tgt := 99) (by decide) (fun hc => ?_) (fun hc => ?_)
            · have hr := ifn hr hc
              refine r_sub [5, 4, 3, 2, 1, 0] (lv' := [(0, (22, a0)), (1, (0, v5)), (2, (0, q12.2 a0 19)), (3, (0, q29.2 a0 21)), (4, (0, q29.2 a0 22)), (5, (0, q69.2 a0 19))]) rfl ?_
              exact oX12_readRef_b99 (K := K) (fun r z => k0 r z) hr hk
            · have hr := ifp hr hc
              refine r_iconst dX12_readRef_97 (by decide) ?_
              refine r_scast 0 (v := (0, 0)) (w := (2, 0)) rfl cz (fun _ => Or.inl rfl) (st' := [(2, 0)]) rfl ?_
              obtain rfl := Option.some.inj hr
              exact r_ret dX12_readRef_98 rfl (Or.inr ⟨rfl, rfl⟩) (k0 _ hk) ⟨rfl, rfl⟩
        · have hr := ifp hr hc
          refine r_iconst dX12_readRef_75 (by decide) ?_
          refine r_scast 0 (v := (0, 0)) (w := (2, 0)) rfl cz (fun _ => Or.inl rfl) (st' := [(2, 0)]) rfl ?_
          obtain rfl := Option.some.inj hr
          exact r_ret dX12_readRef_76 rfl (Or.inr ⟨rfl, rfl⟩) (k0 _ hk) ⟨rfl, rfl⟩
      · have hr := ifp hr hc
        refine r_aload_n dX12_readRef_58 rfl 4 rfl (nl rfl) ?_
        refine r_iconst dX12_readRef_59 (by decide) ?_
        obtain ⟨q60, hg60, hr⟩ := bnd hr
        refine k_V (ci := 12) (o := a0) (T := TX12) (as := [(0, 1)]) (rest := []) (X := (some (2, q60.1), q60.2)) (oX12_bad hg60) gX12_bad rfl (by decide) rfl (wsl_25 _ (List.mem_of_getElem? (i := 6) rfl)) rfl dX12_readRef_60 rfl ?_
        obtain rfl := Option.some.inj hr
        exact r_ret dX12_readRef_63 rfl (Or.inr ⟨rfl, rfl⟩) (k0 _ hk) ⟨rfl, rfl⟩
    · have hr := ifp hr hc
      refine r_iconst dX12_readRef_35 (by decide) ?_
      refine r_scast 0 (v := (0, 0)) (w := (2, 0)) rfl cz (fun _ => Or.inl rfl) (st' := [(2, 0)]) rfl ?_
      obtain rfl := Option.some.inj hr
      exact r_ret dX12_readRef_36 rfl (Or.inr ⟨rfl, rfl⟩) (k0 _ hk) ⟨rfl, rfl⟩
  · have hr := ifp hr hc
    refine r_iconst dX12_readRef_18 (by decide) ?_
    refine r_scast 0 (v := (0, 0)) (w := (2, 0)) rfl cz (fun _ => Or.inl rfl) (st' := [(2, 0)]) rfl ?_
    obtain rfl := Option.some.inj hr
    exact r_ret dX12_readRef_19 rfl (Or.inr ⟨rfl, rfl⟩) (k0 _ hk) ⟨rfl, rfl⟩
end M_X12_readRef
theorem oX12_readRef {l : Launch} {D : va_G} {G : gG} {h : hH} {a0 : Int} {r : Int × hH} (hr : fX12_readRef h a0 = some r) : Ctr l D G true yX12_readRef M_X12_readRef [(22, a0)] h (some (2, r.1), r.2) :=
  Ctr_of (by decide) rfl (fun z => by cases z) (nl rfl) (fun {p e R s m args below meth c A H0} => by
    exact oX12_readRef_b0 (K := fun z9 => z9 = r) (fun r9 z => by rw [z]) hr rfl)
/-! X12_readDefault -/
theorem dX12_readDefault_0 : decode cX12_readDefault 0 = .ok (.aload_n 0, 1) := by decide +kernel
theorem dX12_readDefault_1 : decode cX12_readDefault 1 = .ok (.invokevirtual 226, 3) := by decide +kernel
theorem dX12_readDefault_4 : decode cX12_readDefault 4 = .ok (.aload_n 0, 1) := by decide +kernel
theorem dX12_readDefault_5 : decode cX12_readDefault 5 = .ok (.invokevirtual 282, 3) := by decide +kernel
theorem dX12_readDefault_8 : decode cX12_readDefault 8 = .ok (.ifCond .ne 5, 3) := by decide +kernel
theorem dX12_readDefault_11 : decode cX12_readDefault 11 = .ok (.iconst 0, 1) := by decide +kernel
theorem dX12_readDefault_12 : decode cX12_readDefault 12 = .ok (.ireturn, 1) := by decide +kernel
theorem dX12_readDefault_13 : decode cX12_readDefault 13 = .ok (.aload_n 0, 1) := by decide +kernel
theorem dX12_readDefault_14 : decode cX12_readDefault 14 = .ok (.getfield 233, 3) := by decide +kernel
theorem dX12_readDefault_17 : decode cX12_readDefault 17 = .ok (.istore_n 1, 1) := by decide +kernel
theorem dX12_readDefault_18 : decode cX12_readDefault 18 = .ok (.aload_n 0, 1) := by decide +kernel
theorem dX12_readDefault_19 : decode cX12_readDefault 19 = .ok (.bipush 24, 2) := by decide +kernel
theorem dX12_readDefault_21 : decode cX12_readDefault 21 = .ok (.iconst 4, 1) := by decide +kernel
theorem dX12_readDefault_22 : decode cX12_readDefault 22 = .ok (.iload_n 1, 1) := by decide +kernel
theorem dX12_readDefault_23 : decode cX12_readDefault 23 = .ok (.imul, 1) := by decide +kernel
theorem dX12_readDefault_24 : decode cX12_readDefault 24 = .ok (.iadd, 1) := by decide +kernel
theorem dX12_readDefault_25 : decode cX12_readDefault 25 = .ok (.aload_n 0, 1) := by decide +kernel
theorem dX12_readDefault_26 : decode cX12_readDefault 26 = .ok (.getfield 37, 3) := by decide +kernel
theorem dX12_readDefault_29 : decode cX12_readDefault 29 = .ok (.iconst 4, 1) := by decide +kernel
theorem dX12_readDefault_30 : decode cX12_readDefault 30 = .ok (.iload_n 1, 1) := by decide +kernel
theorem dX12_readDefault_31 : decode cX12_readDefault 31 = .ok (.iadd, 1) := by decide +kernel
theorem dX12_readDefault_32 : decode cX12_readDefault 32 = .ok (.iaload, 1) := by decide +kernel
theorem dX12_readDefault_33 : decode cX12_readDefault 33 = .ok (.invokevirtual 244, 3) := by decide +kernel
theorem dX12_readDefault_36 : decode cX12_readDefault 36 = .ok (.ifCond .ne 5, 3) := by decide +kernel
theorem dX12_readDefault_39 : decode cX12_readDefault 39 = .ok (.iconst 0, 1) := by decide +kernel
theorem dX12_readDefault_40 : decode cX12_readDefault 40 = .ok (.ireturn, 1) := by decide +kernel
theorem dX12_readDefault_41 : decode cX12_readDefault 41 = .ok (.bipush 8, 2) := by decide +kernel
theorem dX12_readDefault_43 : decode cX12_readDefault 43 = .ok (.iconst 4, 1) := by decide +kernel
theorem dX12_readDefault_44 : decode cX12_readDefault 44 = .ok (.iload_n 1, 1) := by decide +kernel
theorem dX12_readDefault_45 : decode cX12_readDefault 45 = .ok (.imul, 1) := by decide +kernel
theorem dX12_readDefault_46 : decode cX12_readDefault 46 = .ok (.iadd, 1) := by decide +kernel
theorem dX12_readDefault_47 : decode cX12_readDefault 47 = .ok (.aload_n 0, 1) := by decide +kernel
theorem dX12_readDefault_48 : decode cX12_readDefault 48 = .ok (.getfield 233, 3) := by decide +kernel
theorem dX12_readDefault_51 : decode cX12_readDefault 51 = .ok (.iadd, 1) := by decide +kernel
theorem dX12_readDefault_52 : decode cX12_readDefault 52 = .ok (.istore_n 2, 1) := by decide +kernel
theorem dX12_readDefault_53 : decode cX12_readDefault 53 = .ok (.aload_n 0, 1) := by decide +kernel
theorem dX12_readDefault_54 : decode cX12_readDefault 54 = .ok (.getfield 37, 3) := by decide +kernel
theorem dX12_readDefault_57 : decode cX12_readDefault 57 = .ok (.iload_n 2, 1) := by decide +kernel
theorem dX12_readDefault_58 : decode cX12_readDefault 58 = .ok (.iaload, 1) := by decide +kernel
theorem dX12_readDefault_59 : decode cX12_readDefault 59 = .ok (.ifCond .lt 9, 3) := by decide +kernel
theorem dX12_readDefault_62 : decode cX12_readDefault 62 = .ok (.aload_n 0, 1) := by decide +kernel
theorem dX12_readDefault_63 : decode cX12_readDefault 63 = .ok (.iconst 3, 1) := by decide +kernel
theorem dX12_readDefault_64 : decode cX12_readDefault 64 = .ok (.invokevirtual 223, 3) := by decide +kernel
theorem dX12_readDefault_67 : decode cX12_readDefault 67 = .ok (.ireturn, 1) := by decide +kernel
theorem dX12_readDefault_68 : decode cX12_readDefault 68 = .ok (.aload_n 0, 1) := by decide +kernel
theorem dX12_readDefault_69 : decode cX12_readDefault 69 = .ok (.invokevirtual 226, 3) := by decide +kernel
theorem dX12_readDefault_72 : decode cX12_readDefault 72 = .ok (.aload_n 0, 1) := by decide +kernel
theorem dX12_readDefault_73 : decode cX12_readDefault 73 = .ok (.iconst 0, 1) := by decide +kernel
theorem dX12_readDefault_74 : decode cX12_readDefault 74 = .ok (.bipush 99, 2) := by decide +kernel
theorem dX12_readDefault_76 : decode cX12_readDefault 76 = .ok (.invokevirtual 299, 3) := by decide +kernel
theorem dX12_readDefault_79 : decode cX12_readDefault 79 = .ok (.ifCond .ne 5, 3) := by decide +kernel
theorem dX12_readDefault_82 : decode cX12_readDefault 82 = .ok (.iconst 0, 1) := by decide +kernel
theorem dX12_readDefault_83 : decode cX12_readDefault 83 = .ok (.ireturn, 1) := by decide +kernel
theorem dX12_readDefault_84 : decode cX12_readDefault 84 = .ok (.aload_n 0, 1) := by decide +kernel
theorem dX12_readDefault_85 : decode cX12_readDefault 85 = .ok (.getfield 37, 3) := by decide +kernel
theorem dX12_readDefault_88 : decode cX12_readDefault 88 = .ok (.iload_n 2, 1) := by decide +kernel
theorem dX12_readDefault_89 : decode cX12_readDefault 89 = .ok (.aload_n 0, 1) := by decide +kernel
theorem dX12_readDefault_90 : decode cX12_readDefault 90 = .ok (.getfield 233, 3) := by decide +kernel
theorem dX12_readDefault_93 : decode cX12_readDefault 93 = .ok (.iastore, 1) := by decide +kernel
theorem dX12_readDefault_94 : decode cX12_readDefault 94 = .ok (.iconst 1, 1) := by decide +kernel
theorem dX12_readDefault_95 : decode cX12_readDefault 95 = .ok (.ireturn, 1) := by decide +kernel
abbrev M_X12_readDefault : mM := (cX12_readDefault, 3, RX12, some .boolean, false, 4, 87, 0, 0)
theorem gX12_readDefault : cI yX12_readDefault M_X12_readDefault 0 := ⟨(wsl_27 _ (List.mem_of_getElem? (i := 18) rfl)), (wsl_27 _ (List.mem_of_getElem? (i := 19) rfl)), (wsl_1 _ (List.mem_of_getElem? (i := 5) rfl)), (wsl_27 _ (List.mem_of_getElem? (i := 20) rfl)), by decide +kernel⟩
noncomputable def fX12_readDefault (h : hH) (a0 : Int) : Option (Int × hH) :=
  (fX12_next h a0).bind fun h1 =>
  (fX12_takesTable h1 a0).bind fun q5 =>
  if q5.1 = 0 then
    some (0, q5.2)
  else
    (aget q5.2 (q5.2 a0 7) (w32 (4 + (q5.2 a0 19)))).bind fun v32 =>
    (fX12_looksAt q5.2 a0 (w32 (24 + (w32 (4 * (q5.2 a0 19))))) v32).bind fun q33 =>
    if q33.1 = 0 then
      some (0, q33.2)
    else
      (aget q33.2 (q33.2 a0 7) (w32 ((w32 (8 + (w32 (4 * (q5.2 a0 19))))) + (q33.2 a0 19)))).bind fun v58 =>
      if v58 < 0 then
        (fX12_next q33.2 a0).bind fun h69 =>
        (fX12_takes h69 a0 0 99).bind fun q76 =>
        if q76.1 = 0 then
          some (0, q76.2)
        else
          (aput q76.2 (q76.2 a0 7) (w32 ((w32 (8 + (w32 (4 * (q5.2 a0 19))))) + (q33.2 a0 19))) (q76.2 a0 19)).bind fun h93 =>
          some (1, h93)
      else
        (fX12_bad q33.2 a0 3).bind fun q64 =>
        some (q64.1, q64.2)
section M_X12_readDefault
variable {p : Program} {l : Launch} {e : Env} {R : Room} {s : State} {m : MethodId} {args : Array Value} {below : List Frame} {meth : Method} {c : Code} {D : va_G} {G : gG} {A : Nat → Prop} {H0 : Heap} {n0 : Int} {x : Option vV × hH} {h : hH}
set_option maxRecDepth 100000 in
set_option maxHeartbeats 4000000 in
theorem oX12_readDefault_b0 {a0 : Int} {K : Int × hH → Prop} (k0 : ∀ r, K (r) → x = (some (2, r.1), r.2)) {r : Int × hH} (hr : fX12_readDefault h a0 = some r) (hk : K r) : Wq p l e R s m args below meth c D G A H0 true n0 M_X12_readDefault x 0 0 0 [(0, (22, a0))] [] h := by
  unfold fX12_readDefault at hr
  refine r_aload_n dX12_readDefault_0 rfl 0 rfl (nl rfl) ?_
  obtain ⟨h1, hg1, hr⟩ := bnd hr
  refine k_V (ci := 12) (o := a0) (T := TX12) (as := []) (rest := []) (X := (none, h1)) (oX12_next hg1) gX12_next rfl (by decide) rfl (wsl_24 _ (List.mem_of_getElem? (i := 0) rfl)) rfl dX12_readDefault_1 rfl ?_
  refine r_aload_n dX12_readDefault_4 rfl 0 rfl (nl rfl) ?_
  obtain ⟨q5, hg5, hr⟩ := bnd hr
  refine k_V (ci := 12) (o := a0) (T := TX12) (as := []) (rest := []) (X := (some (2, q5.1), q5.2)) (oX12_takesTable hg5) gX12_takesTable rfl (by decide) rfl (wsl_26 _ (List.mem_of_getElem? (i := 5) rfl)) rfl dX12_readDefault_5 rfl ?_
  refine r_scast 0 (v := (2, q5.1)) (w := (0, q5.1)) rfl zc hTz (st' := [(0, q5.1)]) rfl ?_
  refine r_if_ne dX12_readDefault_8 (tgt := 13) (by decide) (fun hc => ?_) (fun hc => ?_)
  · have hr := ifn hr hc
    refine r_aload_n dX12_readDefault_13 rfl 0 rfl (nl rfl) ?_
    refine r_get 12 19 (o := a0) (w := (0, q5.2 a0 19)) (T := TX12) (ref := "FollowingRefsModel") rfl (by decide) rfl (by decide) inlX12 (wsl_26 _ (List.mem_of_getElem? (i := 2) rfl)) rfl dX12_readDefault_14 rfl ?_
    refine r_istore_n dX12_readDefault_17 rfl (Or.inl rfl) (by decide) (lv' := [(1, (0, q5.2 a0 19)), (0, (22, a0))]) rfl ?_
    refine r_aload_n dX12_readDefault_18 rfl 1 rfl (nl rfl) ?_
    refine r_bipush dX12_readDefault_19 (by decide) (by decide) ?_
    refine r_iconst dX12_readDefault_21 (by decide) ?_
    refine r_iload_n dX12_readDefault_22 rfl 0 rfl (Or.inl rfl) ?_
    refine r_imul dX12_readDefault_23 ?_
    refine r_iadd dX12_readDefault_24 ?_
    refine r_aload_n dX12_readDefault_25 rfl 1 rfl (nl rfl) ?_
    refine r_get 12 7 (o := a0) (w := (50, q5.2 a0 7)) (T := TX12) (ref := "FollowingRefsModel") rfl (by decide) rfl (by decide) inlX12 (wsl_7 _ (List.mem_of_getElem? (i := 9) rfl)) rfl dX12_readDefault_26 rfl ?_
    refine r_iconst dX12_readDefault_29 (by decide) ?_
    refine r_iload_n dX12_readDefault_30 rfl 0 rfl (Or.inl rfl) ?_
    refine r_iadd dX12_readDefault_31 ?_
    obtain ⟨v32, hg32, hr⟩ := bnd hr
    refine r_iald dX12_readDefault_32 hg32 ?_
    obtain ⟨q33, hg33, hr⟩ := bnd hr
    refine k_V (ci := 12) (o := a0) (T := TX12) (as := [(0, w32 (24 + (w32 (4 * (q5.2 a0 19))))), (0, v32)]) (rest := []) (X := (some (2, q33.1), q33.2)) (oX12_looksAt hg33) gX12_looksAt rfl (by decide) rfl (wsl_26 _ (List.mem_of_getElem? (i := 13) rfl)) rfl dX12_readDefault_33 rfl ?_
    refine r_scast 0 (v := (2, q33.1)) (w := (0, q33.1)) rfl zc hTz (st' := [(0, q33.1)]) rfl ?_
    refine r_if_ne dX12_readDefault_36 (tgt := 41) (by decide) (fun hc => ?_) (fun hc => ?_)
    · have hr := ifn hr hc
      refine r_bipush dX12_readDefault_41 (by decide) (by decide) ?_
      refine r_iconst dX12_readDefault_43 (by decide) ?_
      refine r_iload_n dX12_readDefault_44 rfl 0 rfl (Or.inl rfl) ?_
      refine r_imul dX12_readDefault_45 ?_
      refine r_iadd dX12_readDefault_46 ?_
      refine r_aload_n dX12_readDefault_47 rfl 1 rfl (nl rfl) ?_
      refine r_get 12 19 (o := a0) (w := (0, q33.2 a0 19)) (T := TX12) (ref := "FollowingRefsModel") rfl (by decide) rfl (by decide) inlX12 (wsl_26 _ (List.mem_of_getElem? (i := 2) rfl)) rfl dX12_readDefault_48 rfl ?_
      refine r_iadd dX12_readDefault_51 ?_
      refine r_istore_n dX12_readDefault_52 rfl (Or.inl rfl) (by decide) (lv' := [(2, (0, w32 ((w32 (8 + (w32 (4 * (q5.2 a0 19))))) + (q33.2 a0 19)))), (1, (0, q5.2 a0 19)), (0, (22, a0))]) rfl ?_
      refine r_aload_n dX12_readDefault_53 rfl 2 rfl (nl rfl) ?_
      refine r_get 12 7 (o := a0) (w := (50, q33.2 a0 7)) (T := TX12) (ref := "FollowingRefsModel") rfl (by decide) rfl (by decide) inlX12 (wsl_7 _ (List.mem_of_getElem? (i := 9) rfl)) rfl dX12_readDefault_54 rfl ?_
      refine r_iload_n dX12_readDefault_57 rfl 0 rfl (Or.inl rfl) ?_
      obtain ⟨v58, hg58, hr⟩ := bnd hr
      refine r_iald dX12_readDefault_58 hg58 ?_
      refine r_if_lt dX12_readDefault_59 (tgt := 68) (by decide) (fun hc => ?_) (fun hc => ?_)
      · have hr := ifp hr hc
        refine r_aload_n dX12_readDefault_68 rfl 2 rfl (nl rfl) ?_
        obtain ⟨h69, hg69, hr⟩ := bnd hr
        refine k_V (ci := 12) (o := a0) (T := TX12) (as := []) (rest := []) (X := (none, h69)) (oX12_next hg69) gX12_next rfl (by decide) rfl (wsl_24 _ (List.mem_of_getElem? (i := 0) rfl)) rfl dX12_readDefault_69 rfl ?_
        refine r_aload_n dX12_readDefault_72 rfl 2 rfl (nl rfl) ?_
        refine r_iconst dX12_readDefault_73 (by decide) ?_
        refine r_bipush dX12_readDefault_74 (by decide) (by decide) ?_
        obtain ⟨q76, hg76, hr⟩ := bnd hr
        refine k_V (ci := 12) (o := a0) (T := TX12) (as := [(0, 0), (0, 99)]) (rest := []) (X := (some (2, q76.1), q76.2)) (oX12_takes hg76) gX12_takes rfl (by decide) rfl (wsl_27 _ (List.mem_of_getElem? (i := 21) rfl)) rfl dX12_readDefault_76 rfl ?_
        refine r_scast 0 (v := (2, q76.1)) (w := (0, q76.1)) rfl zc hTz (st' := [(0, q76.1)]) rfl ?_
        refine r_if_ne dX12_readDefault_79 (tgt := 84) (by decide) (fun hc => ?_) (fun hc => ?_)
        · have hr := ifn hr hc
          refine r_aload_n dX12_readDefault_84 rfl 2 rfl (nl rfl) ?_
          refine r_get 12 7 (o := a0) (w := (50, q76.2 a0 7)) (T := TX12) (ref := "FollowingRefsModel") rfl (by decide) rfl (by decide) inlX12 (wsl_7 _ (List.mem_of_getElem? (i := 9) rfl)) rfl dX12_readDefault_85 rfl ?_
          refine r_iload_n dX12_readDefault_88 rfl 0 rfl (Or.inl rfl) ?_
          refine r_aload_n dX12_readDefault_89 rfl 2 rfl (nl rfl) ?_
          refine r_get 12 19 (o := a0) (w := (0, q76.2 a0 19)) (T := TX12) (ref := "FollowingRefsModel") rfl (by decide) rfl (by decide) inlX12 (wsl_26 _ (List.mem_of_getElem? (i := 2) rfl)) rfl dX12_readDefault_90 rfl ?_
          obtain ⟨h93, hg93, hr⟩ := bnd hr
          refine r_iast dX12_readDefault_93 hg93 ?_
          refine r_iconst dX12_readDefault_94 (by decide) ?_
          refine r_scast 0 (v := (0, 1)) (w := (2, 1)) rfl cz (fun _ => Or.inr rfl) (st' := [(2, 1)]) rfl ?_
          obtain rfl := Option.some.inj hr
          exact r_ret dX12_readDefault_95 rfl (Or.inr ⟨rfl, rfl⟩) (k0 _ hk) ⟨rfl, rfl⟩
        · have hr := ifp hr hc
          refine r_iconst dX12_readDefault_82 (by decide) ?_
          refine r_scast 0 (v := (0, 0)) (w := (2, 0)) rfl cz (fun _ => Or.inl rfl) (st' := [(2, 0)]) rfl ?_
          obtain rfl := Option.some.inj hr
          exact r_ret dX12_readDefault_83 rfl (Or.inr ⟨rfl, rfl⟩) (k0 _ hk) ⟨rfl, rfl⟩
      · have hr := ifn hr hc
        refine r_aload_n dX12_readDefault_62 rfl 2 rfl (nl rfl) ?_
        refine r_iconst dX12_readDefault_63 (by decide) ?_
        obtain ⟨q64, hg64, hr⟩ := bnd hr
        refine k_V (ci := 12) (o := a0) (T := TX12) (as := [(0, 3)]) (rest := []) (X := (some (2, q64.1), q64.2)) (oX12_bad hg64) gX12_bad rfl (by decide) rfl (wsl_25 _ (List.mem_of_getElem? (i := 6) rfl)) rfl dX12_readDefault_64 rfl ?_
        obtain rfl := Option.some.inj hr
        exact r_ret dX12_readDefault_67 rfl (Or.inr ⟨rfl, rfl⟩) (k0 _ hk) ⟨rfl, rfl⟩
    · have hr := ifp hr hc
      refine r_iconst dX12_readDefault_39 (by decide) ?_
      refine r_scast 0 (v := (0, 0)) (w := (2, 0)) rfl cz (fun _ => Or.inl rfl) (st' := [(2, 0)]) rfl ?_
      obtain rfl := Option.some.inj hr
      exact r_ret dX12_readDefault_40 rfl (Or.inr ⟨rfl, rfl⟩) (k0 _ hk) ⟨rfl, rfl⟩
  · have hr := ifp hr hc
    refine r_iconst dX12_readDefault_11 (by decide) ?_
    refine r_scast 0 (v := (0, 0)) (w := (2, 0)) rfl cz (fun _ => Or.inl rfl) (st' := [(2, 0)]) rfl ?_
    obtain rfl := Option.some.inj hr
    exact r_ret dX12_readDefault_12 rfl (Or.inr ⟨rfl, rfl⟩) (k0 _ hk) ⟨rfl, rfl⟩
end M_X12_readDefault
theorem oX12_readDefault {l : Launch} {D : va_G} {G : gG} {h : hH} {a0 : Int} {r : Int × hH} (hr : fX12_readDefault h a0 = some r) : Ctr l D G true yX12_readDefault M_X12_readDefault [(22, a0)] h (some (2, r.1), r.2) :=
  Ctr_of (by decide) rfl (fun z => by cases z) (nl rfl) (fun {p e R s m args below meth c A H0} => by
    exact oX12_readDefault_b0 (K := fun z9 => z9 = r) (fun r9 z => by rw [z]) hr rfl)
/-! X12_readNeed -/
theorem dX12_readNeed_0 : decode cX12_readNeed 0 = .ok (.aload_n 0, 1) := by decide +kernel
theorem dX12_readNeed_1 : decode cX12_readNeed 1 = .ok (.invokevirtual 226, 3) := by decide +kernel
theorem dX12_readNeed_4 : decode cX12_readNeed 4 = .ok (.aload_n 0, 1) := by decide +kernel
theorem dX12_readNeed_5 : decode cX12_readNeed 5 = .ok (.invokevirtual 282, 3) := by decide +kernel
theorem dX12_readNeed_8 : decode cX12_readNeed 8 = .ok (.ifCond .ne 5, 3) := by decide +kernel
theorem dX12_readNeed_11 : decode cX12_readNeed 11 = .ok (.iconst 0, 1) := by decide +kernel
theorem dX12_readNeed_12 : decode cX12_readNeed 12 = .ok (.ireturn, 1) := by decide +kernel
theorem dX12_readNeed_13 : decode cX12_readNeed 13 = .ok (.aload_n 0, 1) := by decide +kernel
theorem dX12_readNeed_14 : decode cX12_readNeed 14 = .ok (.getfield 233, 3) := by decide +kernel
theorem dX12_readNeed_17 : decode cX12_readNeed 17 = .ok (.istore_n 1, 1) := by decide +kernel
theorem dX12_readNeed_18 : decode cX12_readNeed 18 = .ok (.aload_n 0, 1) := by decide +kernel
theorem dX12_readNeed_19 : decode cX12_readNeed 19 = .ok (.bipush 24, 2) := by decide +kernel
theorem dX12_readNeed_21 : decode cX12_readNeed 21 = .ok (.iconst 4, 1) := by decide +kernel
theorem dX12_readNeed_22 : decode cX12_readNeed 22 = .ok (.iload_n 1, 1) := by decide +kernel
theorem dX12_readNeed_23 : decode cX12_readNeed 23 = .ok (.imul, 1) := by decide +kernel
theorem dX12_readNeed_24 : decode cX12_readNeed 24 = .ok (.iadd, 1) := by decide +kernel
theorem dX12_readNeed_25 : decode cX12_readNeed 25 = .ok (.aload_n 0, 1) := by decide +kernel
theorem dX12_readNeed_26 : decode cX12_readNeed 26 = .ok (.getfield 37, 3) := by decide +kernel
theorem dX12_readNeed_29 : decode cX12_readNeed 29 = .ok (.iconst 4, 1) := by decide +kernel
theorem dX12_readNeed_30 : decode cX12_readNeed 30 = .ok (.iload_n 1, 1) := by decide +kernel
theorem dX12_readNeed_31 : decode cX12_readNeed 31 = .ok (.iadd, 1) := by decide +kernel
theorem dX12_readNeed_32 : decode cX12_readNeed 32 = .ok (.iaload, 1) := by decide +kernel
theorem dX12_readNeed_33 : decode cX12_readNeed 33 = .ok (.invokevirtual 244, 3) := by decide +kernel
theorem dX12_readNeed_36 : decode cX12_readNeed 36 = .ok (.ifCond .ne 5, 3) := by decide +kernel
theorem dX12_readNeed_39 : decode cX12_readNeed 39 = .ok (.iconst 0, 1) := by decide +kernel
theorem dX12_readNeed_40 : decode cX12_readNeed 40 = .ok (.ireturn, 1) := by decide +kernel
theorem dX12_readNeed_41 : decode cX12_readNeed 41 = .ok (.aload_n 0, 1) := by decide +kernel
theorem dX12_readNeed_42 : decode cX12_readNeed 42 = .ok (.getfield 37, 3) := by decide +kernel
theorem dX12_readNeed_45 : decode cX12_readNeed 45 = .ok (.bipush 24, 2) := by decide +kernel
theorem dX12_readNeed_47 : decode cX12_readNeed 47 = .ok (.iconst 4, 1) := by decide +kernel
theorem dX12_readNeed_48 : decode cX12_readNeed 48 = .ok (.iload_n 1, 1) := by decide +kernel
theorem dX12_readNeed_49 : decode cX12_readNeed 49 = .ok (.imul, 1) := by decide +kernel
theorem dX12_readNeed_50 : decode cX12_readNeed 50 = .ok (.iadd, 1) := by decide +kernel
theorem dX12_readNeed_51 : decode cX12_readNeed 51 = .ok (.aload_n 0, 1) := by decide +kernel
theorem dX12_readNeed_52 : decode cX12_readNeed 52 = .ok (.getfield 233, 3) := by decide +kernel
theorem dX12_readNeed_55 : decode cX12_readNeed 55 = .ok (.iadd, 1) := by decide +kernel
theorem dX12_readNeed_56 : decode cX12_readNeed 56 = .ok (.iaload, 1) := by decide +kernel
theorem dX12_readNeed_57 : decode cX12_readNeed 57 = .ok (.iconst 1, 1) := by decide +kernel
theorem dX12_readNeed_58 : decode cX12_readNeed 58 = .ok (.if_icmp .ne 9, 3) := by decide +kernel
theorem dX12_readNeed_61 : decode cX12_readNeed 61 = .ok (.aload_n 0, 1) := by decide +kernel
theorem dX12_readNeed_62 : decode cX12_readNeed 62 = .ok (.iconst 3, 1) := by decide +kernel
theorem dX12_readNeed_63 : decode cX12_readNeed 63 = .ok (.invokevirtual 223, 3) := by decide +kernel
theorem dX12_readNeed_66 : decode cX12_readNeed 66 = .ok (.ireturn, 1) := by decide +kernel
theorem dX12_readNeed_67 : decode cX12_readNeed 67 = .ok (.aload_n 0, 1) := by decide +kernel
theorem dX12_readNeed_68 : decode cX12_readNeed 68 = .ok (.getfield 37, 3) := by decide +kernel
theorem dX12_readNeed_71 : decode cX12_readNeed 71 = .ok (.bipush 24, 2) := by decide +kernel
theorem dX12_readNeed_73 : decode cX12_readNeed 73 = .ok (.iconst 4, 1) := by decide +kernel
theorem dX12_readNeed_74 : decode cX12_readNeed 74 = .ok (.iload_n 1, 1) := by decide +kernel
theorem dX12_readNeed_75 : decode cX12_readNeed 75 = .ok (.imul, 1) := by decide +kernel
theorem dX12_readNeed_76 : decode cX12_readNeed 76 = .ok (.iadd, 1) := by decide +kernel
theorem dX12_readNeed_77 : decode cX12_readNeed 77 = .ok (.aload_n 0, 1) := by decide +kernel
theorem dX12_readNeed_78 : decode cX12_readNeed 78 = .ok (.getfield 233, 3) := by decide +kernel
theorem dX12_readNeed_81 : decode cX12_readNeed 81 = .ok (.iadd, 1) := by decide +kernel
theorem dX12_readNeed_82 : decode cX12_readNeed 82 = .ok (.iconst 1, 1) := by decide +kernel
theorem dX12_readNeed_83 : decode cX12_readNeed 83 = .ok (.iastore, 1) := by decide +kernel
theorem dX12_readNeed_84 : decode cX12_readNeed 84 = .ok (.aload_n 0, 1) := by decide +kernel
theorem dX12_readNeed_85 : decode cX12_readNeed 85 = .ok (.invokevirtual 226, 3) := by decide +kernel
theorem dX12_readNeed_88 : decode cX12_readNeed 88 = .ok (.iconst 1, 1) := by decide +kernel
theorem dX12_readNeed_89 : decode cX12_readNeed 89 = .ok (.ireturn, 1) := by decide +kernel
abbrev M_X12_readNeed : mM := (cX12_readNeed, 2, RX12, some .boolean, false, 4, 87, 0, 0)
theorem gX12_readNeed : cI yX12_readNeed M_X12_readNeed 0 := ⟨(wsl_28 _ (List.mem_of_getElem? (i := 5) rfl)), (wsl_28 _ (List.mem_of_getElem? (i := 6) rfl)), (wsl_1 _ (List.mem_of_getElem? (i := 5) rfl)), (wsl_28 _ (List.mem_of_getElem? (i := 7) rfl)), by decide +kernel⟩
noncomputable def fX12_readNeed (h : hH) (a0 : Int) : Option (Int × hH) :=
  (fX12_next h a0).bind fun h1 =>
  (fX12_takesTable h1 a0).bind fun q5 =>
  if q5.1 = 0 then
    some (0, q5.2)
  else
    (aget q5.2 (q5.2 a0 7) (w32 (4 + (q5.2 a0 19)))).bind fun v32 =>
    (fX12_looksAt q5.2 a0 (w32 (24 + (w32 (4 * (q5.2 a0 19))))) v32).bind fun q33 =>
    if q33.1 = 0 then
      some (0, q33.2)
    else
      (aget q33.2 (q33.2 a0 7) (w32 ((w32 (24 + (w32 (4 * (q5.2 a0 19))))) + (q33.2 a0 19)))).bind fun v56 =>
      if v56 = 1 then
        (fX12_bad q33.2 a0 3).bind fun q63 =>
        some (q63.1, q63.2)
      else
        (aput q33.2 (q33.2 a0 7) (w32 ((w32 (24 + (w32 (4 * (q5.2 a0 19))))) + (q33.2 a0 19))) 1).bind fun h83 =>
        (fX12_next h83 a0).bind fun h85 =>
        some (1, h85)
section M_X12_readNeed
variable {p : Program} {l : Launch} {e : Env} {R : Room} {s : State} {m : MethodId} {args : Array Value} {below : List Frame} {meth : Method} {c : Code} {D : va_G} {G : gG} {A : Nat → Prop} {H0 : Heap} {n0 : Int} {x : Option vV × hH} {h : hH}
set_option maxRecDepth 100000 in
set_option maxHeartbeats 4000000 in
theorem oX12_readNeed_b0 {a0 : Int} {K : Int × hH → Prop} (k0 : ∀ r, K (r) → x = (some (2, r.1), r.2)) {r : Int × hH} (hr : fX12_readNeed h a0 = some r) (hk : K r) : Wq p l e R s m args below meth c D G A H0 true n0 M_X12_readNeed x 0 0 0 [(0, (22, a0))] [] h := by
  unfold fX12_readNeed at hr
  refine r_aload_n dX12_readNeed_0 rfl 0 rfl (nl rfl) ?_
  obtain ⟨h1, hg1, hr⟩ := bnd hr
  refine k_V (ci := 12) (o := a0) (T := TX12) (as := []) (rest := []) (X := (none, h1)) (oX12_next hg1) gX12_next rfl (by decide) rfl (wsl_24 _ (List.mem_of_getElem? (i := 0) rfl)) rfl dX12_readNeed_1 rfl ?_
  refine r_aload_n dX12_readNeed_4 rfl 0 rfl (nl rfl) ?_
  obtain ⟨q5, hg5, hr⟩ := bnd hr
  refine k_V (ci := 12) (o := a0) (T := TX12) (as := []) (rest := []) (X := (some (2, q5.1), q5.2)) (oX12_takesTable hg5) gX12_takesTable rfl (by decide) rfl (wsl_26 _ (List.mem_of_getElem? (i := 5) rfl)) rfl dX12_readNeed_5 rfl ?_
  refine r_scast 0 (v := (2, q5.1)) (w := (0, q5.1)) rfl zc hTz (st' := [(0, q5.1)]) rfl ?_
  refine r_if_ne dX12_readNeed_8 (tgt := 13) (by decide) (fun hc => ?_) (fun hc => ?_)
  · have hr := ifn hr hc
    refine r_aload_n dX12_readNeed_13 rfl 0 rfl (nl rfl) ?_
    refine r_get 12 19 (o := a0) (w := (0, q5.2 a0 19)) (T := TX12) (ref := "FollowingRefsModel") rfl (by decide) rfl (by decide) inlX12 (wsl_26 _ (List.mem_of_getElem? (i := 2) rfl)) rfl dX12_readNeed_14 rfl ?_
    refine r_istore_n dX12_readNeed_17 rfl (Or.inl rfl) (by decide) (lv' := [(1, (0, q5.2 a0 19)), (0, (22, a0))]) rfl ?_
    refine r_aload_n dX12_readNeed_18 rfl 1 rfl (nl rfl) ?_
    refine r_bipush dX12_readNeed_19 (by decide) (by decide) ?_
    refine r_iconst dX12_readNeed_21 (by decide) ?_
    refine r_iload_n dX12_readNeed_22 rfl 0 rfl (Or.inl rfl) ?_
    refine r_imul dX12_readNeed_23 ?_
    refine r_iadd dX12_readNeed_24 ?_
    refine r_aload_n dX12_readNeed_25 rfl 1 rfl (nl rfl) ?_
    refine r_get 12 7 (o := a0) (w := (50, q5.2 a0 7)) (T := TX12) (ref := "FollowingRefsModel") rfl (by decide) rfl (by decide) inlX12 (wsl_7 _ (List.mem_of_getElem? (i := 9) rfl)) rfl dX12_readNeed_26 rfl ?_
    refine r_iconst dX12_readNeed_29 (by decide) ?_
    refine r_iload_n dX12_readNeed_30 rfl 0 rfl (Or.inl rfl) ?_
    refine r_iadd dX12_readNeed_31 ?_
    obtain ⟨v32, hg32, hr⟩ := bnd hr
    refine r_iald dX12_readNeed_32 hg32 ?_
    obtain ⟨q33, hg33, hr⟩ := bnd hr
    refine k_V (ci := 12) (o := a0) (T := TX12) (as := [(0, w32 (24 + (w32 (4 * (q5.2 a0 19))))), (0, v32)]) (rest := []) (X := (some (2, q33.1), q33.2)) (oX12_looksAt hg33) gX12_looksAt rfl (by decide) rfl (wsl_26 _ (List.mem_of_getElem? (i := 13) rfl)) rfl dX12_readNeed_33 rfl ?_
    refine r_scast 0 (v := (2, q33.1)) (w := (0, q33.1)) rfl zc hTz (st' := [(0, q33.1)]) rfl ?_
    refine r_if_ne dX12_readNeed_36 (tgt := 41) (by decide) (fun hc => ?_) (fun hc => ?_)
    · have hr := ifn hr hc
      refine r_aload_n dX12_readNeed_41 rfl 1 rfl (nl rfl) ?_
      refine r_get 12 7 (o := a0) (w := (50, q33.2 a0 7)) (T := TX12) (ref := "FollowingRefsModel") rfl (by decide) rfl (by decide) inlX12 (wsl_7 _ (List.mem_of_getElem? (i := 9) rfl)) rfl dX12_readNeed_42 rfl ?_
      refine r_bipush dX12_readNeed_45 (by decide) (by decide) ?_
      refine r_iconst dX12_readNeed_47 (by decide) ?_
      refine r_iload_n dX12_readNeed_48 rfl 0 rfl (Or.inl rfl) ?_
      refine r_imul dX12_readNeed_49 ?_
      refine r_iadd dX12_readNeed_50 ?_
      refine r_aload_n dX12_readNeed_51 rfl 1 rfl (nl rfl) ?_
      refine r_get 12 19 (o := a0) (w := (0, q33.2 a0 19)) (T := TX12) (ref := "FollowingRefsModel") rfl (by decide) rfl (by decide) inlX12 (wsl_26 _ (List.mem_of_getElem? (i := 2) rfl)) rfl dX12_readNeed_52 rfl ?_
      refine r_iadd dX12_readNeed_55 ?_
      obtain ⟨v56, hg56, hr⟩ := bnd hr
      refine r_iald dX12_readNeed_56 hg56 ?_
      refine r_iconst dX12_readNeed_57 (by decide) ?_
      refine r_icmp_ne dX12_readNeed_58 (tgt := 67) (by decide) (fun hc => ?_) (fun hc => ?_)
      · have hr := ifn hr hc
        refine r_aload_n dX12_readNeed_67 rfl 1 rfl (nl rfl) ?_
        refine r_get 12 7 (o := a0) (w := (50, q33.2 a0 7)) (T := TX12) (ref := "FollowingRefsModel") rfl (by decide) rfl (by decide) inlX12 (wsl_7 _ (List.mem_of_getElem? (i := 9) rfl)) rfl dX12_readNeed_68 rfl ?_
        refine r_bipush dX12_readNeed_71 (by decide) (by decide) ?_
        refine r_iconst dX12_readNeed_73 (by decide) ?_
        refine r_iload_n dX12_readNeed_74 rfl 0 rfl (Or.inl rfl) ?_
        refine r_imul dX12_readNeed_75 ?_
        refine r_iadd dX12_readNeed_76 ?_
        refine r_aload_n dX12_readNeed_77 rfl 1 rfl (nl rfl) ?_
        refine r_get 12 19 (o := a0) (w := (0, q33.2 a0 19)) (T := TX12) (ref := "FollowingRefsModel") rfl (by decide) rfl (by decide) inlX12 (wsl_26 _ (List.mem_of_getElem? (i := 2) rfl)) rfl dX12_readNeed_78 rfl ?_
        refine r_iadd dX12_readNeed_81 ?_
        refine r_iconst dX12_readNeed_82 (by decide) ?_
        obtain ⟨h83, hg83, hr⟩ := bnd hr
        refine r_iast dX12_readNeed_83 hg83 ?_
        refine r_aload_n dX12_readNeed_84 rfl 1 rfl (nl rfl) ?_
        obtain ⟨h85, hg85, hr⟩ := bnd hr
        refine k_V (ci := 12) (o := a0) (T := TX12) (as := []) (rest := []) (X := (none, h85)) (oX12_next hg85) gX12_next rfl (by decide) rfl (wsl_24 _ (List.mem_of_getElem? (i := 0) rfl)) rfl dX12_readNeed_85 rfl ?_
        refine r_iconst dX12_readNeed_88 (by decide) ?_
        refine r_scast 0 (v := (0, 1)) (w := (2, 1)) rfl cz (fun _ => Or.inr rfl) (st' := [(2, 1)]) rfl ?_
        obtain rfl := Option.some.inj hr
        exact r_ret dX12_readNeed_89 rfl (Or.inr ⟨rfl, rfl⟩) (k0 _ hk) ⟨rfl, rfl⟩
      · have hr := ifp hr hc
        refine r_aload_n dX12_readNeed_61 rfl 1 rfl (nl rfl) ?_
        refine r_iconst dX12_readNeed_62 (by decide) ?_
        obtain ⟨q63, hg63, hr⟩ := bnd hr
        refine k_V (ci := 12) (o := a0) (T := TX12) (as := [(0, 3)]) (rest := []) (X := (some (2, q63.1), q63.2)) (oX12_bad hg63) gX12_bad rfl (by decide) rfl (wsl_25 _ (List.mem_of_getElem? (i := 6) rfl)) rfl dX12_readNeed_63 rfl ?_
        obtain rfl := Option.some.inj hr
        exact r_ret dX12_readNeed_66 rfl (Or.inr ⟨rfl, rfl⟩) (k0 _ hk) ⟨rfl, rfl⟩
    · have hr := ifp hr hc
      refine r_iconst dX12_readNeed_39 (by decide) ?_
      refine r_scast 0 (v := (0, 0)) (w := (2, 0)) rfl cz (fun _ => Or.inl rfl) (st' := [(2, 0)]) rfl ?_
      obtain rfl := Option.some.inj hr
      exact r_ret dX12_readNeed_40 rfl (Or.inr ⟨rfl, rfl⟩) (k0 _ hk) ⟨rfl, rfl⟩
  · have hr := ifp hr hc
    refine r_iconst dX12_readNeed_11 (by decide) ?_
    refine r_scast 0 (v := (0, 0)) (w := (2, 0)) rfl cz (fun _ => Or.inl rfl) (st' := [(2, 0)]) rfl ?_
    obtain rfl := Option.some.inj hr
    exact r_ret dX12_readNeed_12 rfl (Or.inr ⟨rfl, rfl⟩) (k0 _ hk) ⟨rfl, rfl⟩
end M_X12_readNeed
theorem oX12_readNeed {l : Launch} {D : va_G} {G : gG} {h : hH} {a0 : Int} {r : Int × hH} (hr : fX12_readNeed h a0 = some r) : Ctr l D G true yX12_readNeed M_X12_readNeed [(22, a0)] h (some (2, r.1), r.2) :=
  Ctr_of (by decide) rfl (fun z => by cases z) (nl rfl) (fun {p e R s m args below meth c A H0} => by
    exact oX12_readNeed_b0 (K := fun z9 => z9 = r) (fun r9 z => by rw [z]) hr rfl)
