/-! X10_reset -/
theorem dX10_reset_0 : decode cX10_reset 0 = .ok (.aload_n 0, 1) := by decide +kernel
theorem dX10_reset_1 : decode cX10_reset 1 = .ok (.iconst 0, 1) := by decide +kernel
theorem dX10_reset_2 : decode cX10_reset 2 = .ok (.putfield 15, 3) := by decide +kernel
theorem dX10_reset_5 : decode cX10_reset 5 = .ok (.return_, 1) := by decide +kernel
abbrev M_X10_reset : mM := (cX10_reset, 1, RX10, none, false, 0, 0, 0, 0)
theorem gX10_reset : cI yX10_reset M_X10_reset 0 := ⟨(wsl_32 _ (List.mem_of_getElem? (i := 12) rfl)), (wsl_32 _ (List.mem_of_getElem? (i := 13) rfl)), (wsl_6 _ (List.mem_of_getElem? (i := 0) rfl)), (wsl_32 _ (List.mem_of_getElem? (i := 14) rfl)), by decide +kernel⟩
noncomputable def fX10_reset (h : hH) (a0 : Int) : Option (hH) :=
  (pput h a0 0 0).bind fun h2 =>
  some h2
section M_X10_reset
variable {p : Program} {l : Launch} {e : Env} {R : Room} {s : State} {m : MethodId} {args : Array Value} {below : List Frame} {meth : Method} {c : Code} {D : va_G} {G : gG} {A : Nat → Prop} {H0 : Heap} {n0 : Int} {x : Option vV × hH} {h : hH}
set_option maxRecDepth 100000 in
set_option maxHeartbeats 4000000 in
theorem oX10_reset_b0 {a0 : Int} {K : hH → Prop} (k0 : ∀ r, K (r) → x = (none, r)) {r : hH} (hr : fX10_reset h a0 = some r) (hk : K r) : Wq p l e R s m args below meth c D G A H0 true n0 M_X10_reset x 0 0 0 [(0, (20, a0))] [] h := by
  unfold fX10_reset at hr
  refine r_aload_n dX10_reset_0 rfl 0 rfl (nl rfl) ?_
  refine r_iconst dX10_reset_1 (by decide) ?_
  obtain ⟨h2, hg2, hr⟩ := bnd hr
  refine r_put' 10 0 (t := 0) (ref := "FollowingRefs$Violations") hg2 rfl tyX10 tyX10_ok nmX10 rfl (by decide) rfl (by decide) inlX10 (wsl_32 _ (List.mem_of_getElem? (i := 15) rfl)) rfl rfl (by decide +kernel) (by decide) rfl (Or.inl ⟨rfl, rfl⟩) dX10_reset_2 ?_
  obtain rfl := Option.some.inj hr
  exact r_vret dX10_reset_5 rfl (k0 _ hk) ⟨rfl, rfl⟩
end M_X10_reset
theorem oX10_reset {l : Launch} {D : va_G} {G : gG} {h : hH} {a0 : Int} {r : hH} (hr : fX10_reset h a0 = some r) : Ctr l D G true yX10_reset M_X10_reset [(20, a0)] h (none, r) :=
  Ctr_of (by decide) rfl (fun z => by cases z) (nl rfl) (fun {p e R s m args below meth c A H0} => by
    exact oX10_reset_b0 (K := fun z9 => z9 = r) (fun r9 z => by rw [z]) hr rfl)
/-! J7_fill_53178 -/
theorem dJ7_fill_53178_0 : decode cJ7_fill_53178 0 = .ok (.iconst 0, 1) := by decide +kernel
theorem dJ7_fill_53178_1 : decode cJ7_fill_53178 1 = .ok (.istore_n 2, 1) := by decide +kernel
theorem dJ7_fill_53178_2 : decode cJ7_fill_53178 2 = .ok (.aload_n 0, 1) := by decide +kernel
theorem dJ7_fill_53178_3 : decode cJ7_fill_53178 3 = .ok (.arraylength, 1) := by decide +kernel
theorem dJ7_fill_53178_4 : decode cJ7_fill_53178 4 = .ok (.istore_n 3, 1) := by decide +kernel
theorem dJ7_fill_53178_5 : decode cJ7_fill_53178 5 = .ok (.iload_n 2, 1) := by decide +kernel
theorem dJ7_fill_53178_6 : decode cJ7_fill_53178 6 = .ok (.iload_n 3, 1) := by decide +kernel
theorem dJ7_fill_53178_7 : decode cJ7_fill_53178 7 = .ok (.if_icmp .ge 13, 3) := by decide +kernel
theorem dJ7_fill_53178_10 : decode cJ7_fill_53178 10 = .ok (.aload_n 0, 1) := by decide +kernel
theorem dJ7_fill_53178_11 : decode cJ7_fill_53178 11 = .ok (.iload_n 2, 1) := by decide +kernel
theorem dJ7_fill_53178_12 : decode cJ7_fill_53178 12 = .ok (.iload_n 1, 1) := by decide +kernel
theorem dJ7_fill_53178_13 : decode cJ7_fill_53178 13 = .ok (.iastore, 1) := by decide +kernel
theorem dJ7_fill_53178_14 : decode cJ7_fill_53178 14 = .ok (.iinc 2 1, 3) := by decide +kernel
theorem dJ7_fill_53178_17 : decode cJ7_fill_53178 17 = .ok (.goto (-12), 3) := by decide +kernel
theorem dJ7_fill_53178_20 : decode cJ7_fill_53178 20 = .ok (.return_, 1) := by decide +kernel
abbrev M_J7_fill_53178 : mM := (cJ7_fill_53178, 4, RJ7, none, false, 0, 0, 0, 0)
theorem gJ7_fill_53178 : cS yJ7_fill_53178 M_J7_fill_53178 2 := ⟨(wsl_7 _ (List.mem_of_getElem? (i := 0) rfl)), (wsl_7 _ (List.mem_of_getElem? (i := 1) rfl)), (wsl_7 _ (List.mem_of_getElem? (i := 2) rfl)), by decide +kernel⟩
noncomputable def fJ7_fill_53178_s5 (h0 : hH) (a0 a1 l3 : Int) : hH × Int → Option ((hH × Int) ⊕ (hH)) := fun (h, l2) =>
  if l2 < l3 then
    (aput h a0 l2 a1).bind fun h13 =>
    some (.inl (h13, w32 (l2 + 1)))
  else
    some (.inr (h))
noncomputable def fJ7_fill_53178 (h : hH) (a0 a1 : Int) : Option (hH) :=
  lpO (fJ7_fill_53178_s5 h a0 a1 (h a0 (-1))) (h, 0)
section M_J7_fill_53178
variable {p : Program} {l : Launch} {e : Env} {R : Room} {s : State} {m : MethodId} {args : Array Value} {below : List Frame} {meth : Method} {c : Code} {D : va_G} {G : gG} {A : Nat → Prop} {H0 : Heap} {n0 : Int} {x : Option vV × hH} {h : hH}
set_option maxRecDepth 100000 in
set_option maxHeartbeats 4000000 in
theorem oJ7_fill_53178_s5 {h0 : hH} {a0 a1 l3 l2 : Int} {K : (hH × Int) ⊕ (hH) → Prop} (k0 : ∀ r, K (.inr (r)) → x = (none, r)) (k1 : ∀ (h : hH) (l2 : Int), K (.inl (h, l2)) → Wq p l e R s m args below meth c D G A H0 true n0 M_J7_fill_53178 x 0 0 5 [(0, (50, a0)), (1, (0, a1)), (2, (0, l2)), (3, (0, l3))] [] h) {r : (hH × Int) ⊕ (hH)} (hr : fJ7_fill_53178_s5 h0 a0 a1 l3 (h, l2) = some r) (hk : K r) : Wq p l e R s m args below meth c D G A H0 true n0 M_J7_fill_53178 x 0 0 5 [(0, (50, a0)), (1, (0, a1)), (2, (0, l2)), (3, (0, l3))] [] h := by
  unfold fJ7_fill_53178_s5 at hr
  refine r_iload_n dJ7_fill_53178_5 rfl 2 rfl (Or.inl rfl) ?_
  refine r_iload_n dJ7_fill_53178_6 rfl 3 rfl (Or.inl rfl) ?_
  refine r_icmp_ge dJ7_fill_53178_7 (tgt := 20) (by decide) (fun hc => ?_) (fun hc => ?_)
  · have hr := ifn hr hc
    obtain rfl := Option.some.inj hr
    exact r_vret dJ7_fill_53178_20 rfl (k0 _ hk) ⟨rfl, rfl⟩
  · have hr := ifp hr hc
    refine r_aload_n dJ7_fill_53178_10 rfl 0 rfl (nl rfl) ?_
    refine r_iload_n dJ7_fill_53178_11 rfl 2 rfl (Or.inl rfl) ?_
    refine r_iload_n dJ7_fill_53178_12 rfl 1 rfl (Or.inl rfl) ?_
    obtain ⟨h13, hg13, hr⟩ := bnd hr
    refine r_iast dJ7_fill_53178_13 hg13 ?_
    refine r_iinc (k := 2) (v := l2) dJ7_fill_53178_14 rfl (by decide) (lv' := [(2, (0, w32 (l2 + 1))), (0, (50, a0)), (1, (0, a1)), (3, (0, l3))]) rfl ?_
    refine r_goto dJ7_fill_53178_17 (tgt := 5) (by decide) ?_
    refine r_sub [1, 2, 0, 3] (lv' := [(0, (50, a0)), (1, (0, a1)), (2, (0, w32 (l2 + 1))), (3, (0, l3))]) rfl ?_
    obtain rfl := Option.some.inj hr
    exact k1 _ _ hk
set_option maxRecDepth 100000 in
set_option maxHeartbeats 4000000 in
theorem oJ7_fill_53178_b0 {a0 a1 : Int} {K : hH → Prop} (k0 : ∀ r, K (r) → x = (none, r)) {r : hH} (hr : fJ7_fill_53178 h a0 a1 = some r) (hk : K r) : Wq p l e R s m args below meth c D G A H0 true n0 M_J7_fill_53178 x 0 0 0 [(0, (50, a0)), (1, (0, a1))] [] h := by
  unfold fJ7_fill_53178 at hr
  refine r_iconst dJ7_fill_53178_0 (by decide) ?_
  refine r_istore_n dJ7_fill_53178_1 rfl (Or.inl rfl) (by decide) (lv' := [(2, (0, 0)), (0, (50, a0)), (1, (0, a1))]) rfl ?_
  refine r_aload_n dJ7_fill_53178_2 rfl 1 rfl (nl rfl) ?_
  refine r_alen (t := 50) (by decide) (by decide) dJ7_fill_53178_3 ?_
  refine r_istore_n dJ7_fill_53178_4 rfl (Or.inl rfl) (by decide) (lv' := [(3, (0, h a0 (-1))), (2, (0, 0)), (0, (50, a0)), (1, (0, a1))]) rfl ?_
  refine r_sub [2, 3, 1, 0] (lv' := [(0, (50, a0)), (1, (0, a1)), (2, (0, 0)), (3, (0, h a0 (-1)))]) rfl ?_
  exact lp_ok (w := fun (q : hH × Int) => Wq p l e R s m args below meth c D G A H0 true n0 M_J7_fill_53178 x 0 0 5 [(0, (50, a0)), (1, (0, a1)), (2, (0, q.2)), (3, (0, h a0 (-1)))] [] (q.1)) (K := K) (fun ⟨q0, q1⟩ r h1 h2 => oJ7_fill_53178_s5 (K := Sum.elim (fun (q : hH × Int) => Wq p l e R s m args below meth c D G A H0 true n0 M_J7_fill_53178 x 0 0 5 [(0, (50, a0)), (1, (0, a1)), (2, (0, q.2)), (3, (0, h a0 (-1)))] [] (q.1)) (K)) (fun r z => k0 r z) (fun _ _ z => z) h1 h2) hr hk
end M_J7_fill_53178
theorem oJ7_fill_53178 {l : Launch} {D : va_G} {G : gG} {h : hH} {a0 a1 : Int} {r : hH} (hr : fJ7_fill_53178 h a0 a1 = some r) : Ctr l D G true yJ7_fill_53178 M_J7_fill_53178 [(50, a0), (0, a1)] h (none, r) :=
  Ctr_of (by decide) rfl (fun z => by cases z) (nl rfl) (fun {p e R s m args below meth c A H0} => by
    exact oJ7_fill_53178_b0 (K := fun z9 => z9 = r) (fun r9 z => by rw [z]) hr rfl)
/-! X1_reset -/
theorem dX1_reset_0 : decode cX1_reset 0 = .ok (.aload_n 0, 1) := by decide +kernel
theorem dX1_reset_1 : decode cX1_reset 1 = .ok (.iconst 1, 1) := by decide +kernel
theorem dX1_reset_2 : decode cX1_reset 2 = .ok (.putfield 102, 3) := by decide +kernel
theorem dX1_reset_5 : decode cX1_reset 5 = .ok (.aload_n 0, 1) := by decide +kernel
theorem dX1_reset_6 : decode cX1_reset 6 = .ok (.iconst 0, 1) := by decide +kernel
theorem dX1_reset_7 : decode cX1_reset 7 = .ok (.putfield 65, 3) := by decide +kernel
theorem dX1_reset_10 : decode cX1_reset 10 = .ok (.aload_n 0, 1) := by decide +kernel
theorem dX1_reset_11 : decode cX1_reset 11 = .ok (.iconst 0, 1) := by decide +kernel
theorem dX1_reset_12 : decode cX1_reset 12 = .ok (.putfield 105, 3) := by decide +kernel
theorem dX1_reset_15 : decode cX1_reset 15 = .ok (.aload_n 0, 1) := by decide +kernel
theorem dX1_reset_16 : decode cX1_reset 16 = .ok (.iconst 0, 1) := by decide +kernel
theorem dX1_reset_17 : decode cX1_reset 17 = .ok (.putfield 108, 3) := by decide +kernel
theorem dX1_reset_20 : decode cX1_reset 20 = .ok (.aload_n 0, 1) := by decide +kernel
theorem dX1_reset_21 : decode cX1_reset 21 = .ok (.iconst 0, 1) := by decide +kernel
theorem dX1_reset_22 : decode cX1_reset 22 = .ok (.putfield 111, 3) := by decide +kernel
theorem dX1_reset_25 : decode cX1_reset 25 = .ok (.aload_n 0, 1) := by decide +kernel
theorem dX1_reset_26 : decode cX1_reset 26 = .ok (.iconst 0, 1) := by decide +kernel
theorem dX1_reset_27 : decode cX1_reset 27 = .ok (.putfield 114, 3) := by decide +kernel
theorem dX1_reset_30 : decode cX1_reset 30 = .ok (.aload_n 0, 1) := by decide +kernel
theorem dX1_reset_31 : decode cX1_reset 31 = .ok (.getfield 21, 3) := by decide +kernel
theorem dX1_reset_34 : decode cX1_reset 34 = .ok (.invokevirtual 117, 3) := by decide +kernel
theorem dX1_reset_37 : decode cX1_reset 37 = .ok (.aload_n 0, 1) := by decide +kernel
theorem dX1_reset_38 : decode cX1_reset 38 = .ok (.getfield 32, 3) := by decide +kernel
theorem dX1_reset_41 : decode cX1_reset 41 = .ok (.iconst (-1), 1) := by decide +kernel
theorem dX1_reset_42 : decode cX1_reset 42 = .ok (.invokestatic 118, 3) := by decide +kernel
theorem dX1_reset_45 : decode cX1_reset 45 = .ok (.aload_n 0, 1) := by decide +kernel
theorem dX1_reset_46 : decode cX1_reset 46 = .ok (.getfield 38, 3) := by decide +kernel
theorem dX1_reset_49 : decode cX1_reset 49 = .ok (.iconst 0, 1) := by decide +kernel
theorem dX1_reset_50 : decode cX1_reset 50 = .ok (.invokestatic 118, 3) := by decide +kernel
theorem dX1_reset_53 : decode cX1_reset 53 = .ok (.return_, 1) := by decide +kernel
abbrev M_X1_reset : mM := (cX1_reset, 1, RX1, none, false, 1, 23, 0, 0)
theorem gX1_reset : cI yX1_reset M_X1_reset 0 := ⟨(wsl_32 _ (List.mem_of_getElem? (i := 3) rfl)), (wsl_32 _ (List.mem_of_getElem? (i := 4) rfl)), (wsl_2 _ (List.mem_of_getElem? (i := 19) rfl)), (wsl_32 _ (List.mem_of_getElem? (i := 5) rfl)), by decide +kernel⟩
noncomputable def fX1_reset (h : hH) (a0 : Int) : Option (hH) :=
  (pput h a0 4 1).bind fun h2 =>
  (pput h2 a0 5 0).bind fun h7 =>
  (pput h7 a0 6 0).bind fun h12 =>
  (pput h12 a0 7 0).bind fun h17 =>
  (pput h17 a0 8 0).bind fun h22 =>
  (pput h22 a0 9 0).bind fun h27 =>
  (fX10_reset h27 (h27 a0 3)).bind fun h34 =>
  (fJ7_fill_53178 h34 (h34 a0 13) (-1)).bind fun h42 =>
  (fJ7_fill_53178 h42 (h42 a0 15) 0).bind fun h50 =>
  some h50
section M_X1_reset
variable {p : Program} {l : Launch} {e : Env} {R : Room} {s : State} {m : MethodId} {args : Array Value} {below : List Frame} {meth : Method} {c : Code} {D : va_G} {G : gG} {A : Nat → Prop} {H0 : Heap} {n0 : Int} {x : Option vV × hH} {h : hH}
set_option maxRecDepth 100000 in
set_option maxHeartbeats 4000000 in
theorem oX1_reset_b0 {a0 : Int} {K : hH → Prop} (k0 : ∀ r, K (r) → x = (none, r)) {r : hH} (hr : fX1_reset h a0 = some r) (hk : K r) : Wq p l e R s m args below meth c D G A H0 true n0 M_X1_reset x 0 0 0 [(0, (11, a0))] [] h := by
  unfold fX1_reset at hr
  refine r_aload_n dX1_reset_0 rfl 0 rfl (nl rfl) ?_
  refine r_iconst dX1_reset_1 (by decide) ?_
  refine r_scast 0 (v := (0, 1)) (w := (2, 1)) rfl cz (fun _ => Or.inr rfl) (st' := [(2, 1), (11, a0)]) rfl ?_
  obtain ⟨h2, hg2, hr⟩ := bnd hr
  refine r_put' 1 4 (t := 2) (ref := "FollowingRefs$Judge") hg2 rfl tyX1 tyX1_ok nmX1 rfl (by decide) rfl (by decide) inlX1 (wsl_32 _ (List.mem_of_getElem? (i := 6) rfl)) rfl rfl (by decide +kernel) (by decide) rfl (Or.inr (Or.inr (Or.inl ⟨rfl, rfl⟩))) dX1_reset_2 ?_
  refine r_aload_n dX1_reset_5 rfl 0 rfl (nl rfl) ?_
  refine r_iconst dX1_reset_6 (by decide) ?_
  obtain ⟨h7, hg7, hr⟩ := bnd hr
  refine r_put' 1 5 (t := 0) (ref := "FollowingRefs$Judge") hg7 rfl tyX1 tyX1_ok nmX1 rfl (by decide) rfl (by decide) inlX1 (wsl_32 _ (List.mem_of_getElem? (i := 0) rfl)) rfl rfl (by decide +kernel) (by decide) rfl (Or.inl ⟨rfl, rfl⟩) dX1_reset_7 ?_
  refine r_aload_n dX1_reset_10 rfl 0 rfl (nl rfl) ?_
  refine r_iconst dX1_reset_11 (by decide) ?_
  obtain ⟨h12, hg12, hr⟩ := bnd hr
  refine r_put' 1 6 (t := 0) (ref := "FollowingRefs$Judge") hg12 rfl tyX1 tyX1_ok nmX1 rfl (by decide) rfl (by decide) inlX1 (wsl_32 _ (List.mem_of_getElem? (i := 7) rfl)) rfl rfl (by decide +kernel) (by decide) rfl (Or.inl ⟨rfl, rfl⟩) dX1_reset_12 ?_
  refine r_aload_n dX1_reset_15 rfl 0 rfl (nl rfl) ?_
  refine r_iconst dX1_reset_16 (by decide) ?_
  obtain ⟨h17, hg17, hr⟩ := bnd hr
  refine r_put' 1 7 (t := 0) (ref := "FollowingRefs$Judge") hg17 rfl tyX1 tyX1_ok nmX1 rfl (by decide) rfl (by decide) inlX1 (wsl_32 _ (List.mem_of_getElem? (i := 8) rfl)) rfl rfl (by decide +kernel) (by decide) rfl (Or.inl ⟨rfl, rfl⟩) dX1_reset_17 ?_
  refine r_aload_n dX1_reset_20 rfl 0 rfl (nl rfl) ?_
  refine r_iconst dX1_reset_21 (by decide) ?_
  obtain ⟨h22, hg22, hr⟩ := bnd hr
  refine r_put' 1 8 (t := 0) (ref := "FollowingRefs$Judge") hg22 rfl tyX1 tyX1_ok nmX1 rfl (by decide) rfl (by decide) inlX1 (wsl_32 _ (List.mem_of_getElem? (i := 9) rfl)) rfl rfl (by decide +kernel) (by decide) rfl (Or.inl ⟨rfl, rfl⟩) dX1_reset_22 ?_
  refine r_aload_n dX1_reset_25 rfl 0 rfl (nl rfl) ?_
  refine r_iconst dX1_reset_26 (by decide) ?_
  obtain ⟨h27, hg27, hr⟩ := bnd hr
  refine r_put' 1 9 (t := 0) (ref := "FollowingRefs$Judge") hg27 rfl tyX1 tyX1_ok nmX1 rfl (by decide) rfl (by decide) inlX1 (wsl_32 _ (List.mem_of_getElem? (i := 10) rfl)) rfl rfl (by decide +kernel) (by decide) rfl (Or.inl ⟨rfl, rfl⟩) dX1_reset_27 ?_
  refine r_aload_n dX1_reset_30 rfl 0 rfl (nl rfl) ?_
  refine r_get 1 3 (o := a0) (w := (20, h27 a0 3)) (T := TX1) (ref := "FollowingRefs$Judge") rfl (by decide) rfl (by decide) inlX1 (wsl_6 _ (List.mem_of_getElem? (i := 1) rfl)) rfl dX1_reset_31 rfl ?_
  obtain ⟨h34, hg34, hr⟩ := bnd hr
  refine k_V (ci := 10) (o := h27 a0 3) (T := TX10) (as := []) (rest := []) (X := (none, h34)) (oX10_reset hg34) gX10_reset rfl (by decide) rfl (wsl_32 _ (List.mem_of_getElem? (i := 11) rfl)) rfl dX1_reset_34 rfl ?_
  refine r_aload_n dX1_reset_37 rfl 0 rfl (nl rfl) ?_
  refine r_get 1 13 (o := a0) (w := (50, h34 a0 13)) (T := TX1) (ref := "FollowingRefs$Judge") rfl (by decide) rfl (by decide) inlX1 (wsl_6 _ (List.mem_of_getElem? (i := 4) rfl)) rfl dX1_reset_38 rfl ?_
  refine r_iconst dX1_reset_41 (by decide) ?_
  obtain ⟨h42, hg42, hr⟩ := bnd hr
  refine k_S (as := [(50, h34 a0 13), (0, -1)]) (rest := []) (X := (none, h42)) (oJ7_fill_53178 hg42) gJ7_fill_53178 rfl (wsl_32 _ (List.mem_of_getElem? (i := 16) rfl)) rfl dX1_reset_42 rfl ?_
  refine r_aload_n dX1_reset_45 rfl 0 rfl (nl rfl) ?_
  refine r_get 1 15 (o := a0) (w := (50, h42 a0 15)) (T := TX1) (ref := "FollowingRefs$Judge") rfl (by decide) rfl (by decide) inlX1 (wsl_6 _ (List.mem_of_getElem? (i := 6) rfl)) rfl dX1_reset_46 rfl ?_
  refine r_iconst dX1_reset_49 (by decide) ?_
  obtain ⟨h50, hg50, hr⟩ := bnd hr
  refine k_S (as := [(50, h42 a0 15), (0, 0)]) (rest := []) (X := (none, h50)) (oJ7_fill_53178 hg50) gJ7_fill_53178 rfl (wsl_32 _ (List.mem_of_getElem? (i := 16) rfl)) rfl dX1_reset_50 rfl ?_
  obtain rfl := Option.some.inj hr
  exact r_vret dX1_reset_53 rfl (k0 _ hk) ⟨rfl, rfl⟩
end M_X1_reset
theorem oX1_reset {l : Launch} {D : va_G} {G : gG} {h : hH} {a0 : Int} {r : hH} (hr : fX1_reset h a0 = some r) : Ctr l D G true yX1_reset M_X1_reset [(11, a0)] h (none, r) :=
  Ctr_of (by decide) rfl (fun z => by cases z) (nl rfl) (fun {p e R s m args below meth c A H0} => by
    exact oX1_reset_b0 (K := fun z9 => z9 = r) (fun r9 z => by rw [z]) hr rfl)
/-! X11_at -/
theorem dX11_at_0 : decode cX11_at 0 = .ok (.iload_n 1, 1) := by decide +kernel
theorem dX11_at_1 : decode cX11_at 1 = .ok (.ifCond .lt 15, 3) := by decide +kernel
theorem dX11_at_4 : decode cX11_at 4 = .ok (.iload_n 1, 1) := by decide +kernel
theorem dX11_at_5 : decode cX11_at 5 = .ok (.aload_n 0, 1) := by decide +kernel
theorem dX11_at_6 : decode cX11_at 6 = .ok (.arraylength, 1) := by decide +kernel
theorem dX11_at_7 : decode cX11_at 7 = .ok (.if_icmp .ge 9, 3) := by decide +kernel
theorem dX11_at_10 : decode cX11_at 10 = .ok (.aload_n 0, 1) := by decide +kernel
theorem dX11_at_11 : decode cX11_at 11 = .ok (.iload_n 1, 1) := by decide +kernel
theorem dX11_at_12 : decode cX11_at 12 = .ok (.iaload, 1) := by decide +kernel
theorem dX11_at_13 : decode cX11_at 13 = .ok (.goto 4, 3) := by decide +kernel
theorem dX11_at_16 : decode cX11_at 16 = .ok (.iconst (-1), 1) := by decide +kernel
theorem dX11_at_17 : decode cX11_at 17 = .ok (.ireturn, 1) := by decide +kernel
abbrev M_X11_at : mM := (cX11_at, 2, RX11, some .int, false, 0, 0, 0, 0)
theorem gX11_at : cS yX11_at M_X11_at 2 := ⟨(wsl_20 _ (List.mem_of_getElem? (i := 3) rfl)), (wsl_1 _ (List.mem_of_getElem? (i := 2) rfl)), (wsl_20 _ (List.mem_of_getElem? (i := 4) rfl)), by decide +kernel⟩
noncomputable def fX11_at (h : hH) (a0 a1 : Int) : Option (Int) :=
  if a1 < 0 then
    some (-1)
  else
    if a1 < h a0 (-1) then
      (aget h a0 a1).bind fun v12 =>
      some v12
    else
      some (-1)
section M_X11_at
variable {p : Program} {l : Launch} {e : Env} {R : Room} {s : State} {m : MethodId} {args : Array Value} {below : List Frame} {meth : Method} {c : Code} {D : va_G} {G : gG} {A : Nat → Prop} {H0 : Heap} {n0 : Int} {x : Option vV × hH} {h : hH}
set_option maxRecDepth 100000 in
set_option maxHeartbeats 4000000 in
theorem oX11_at_b0 {a0 a1 : Int} {K : Int → Prop} (k0 : ∀ r, K (r) → x = (some (0, r), h)) {r : Int} (hr : fX11_at h a0 a1 = some r) (hk : K r) : Wq p l e R s m args below meth c D G A H0 true n0 M_X11_at x 0 0 0 [(0, (50, a0)), (1, (0, a1))] [] h := by
  unfold fX11_at at hr
  refine r_iload_n dX11_at_0 rfl 1 rfl (Or.inl rfl) ?_
  refine r_if_lt dX11_at_1 (tgt := 16) (by decide) (fun hc => ?_) (fun hc => ?_)
  · have hr := ifp hr hc
    refine r_iconst dX11_at_16 (by decide) ?_
    obtain rfl := Option.some.inj hr
    exact r_ret dX11_at_17 rfl (Or.inl ⟨rfl, rfl⟩) (k0 _ hk) ⟨rfl, rfl⟩
  · have hr := ifn hr hc
    refine r_iload_n dX11_at_4 rfl 1 rfl (Or.inl rfl) ?_
    refine r_aload_n dX11_at_5 rfl 0 rfl (nl rfl) ?_
    refine r_alen (t := 50) (by decide) (by decide) dX11_at_6 ?_
    refine r_icmp_ge dX11_at_7 (tgt := 16) (by decide) (fun hc => ?_) (fun hc => ?_)
    · have hr := ifn hr hc
      refine r_iconst dX11_at_16 (by decide) ?_
      obtain rfl := Option.some.inj hr
      exact r_ret dX11_at_17 rfl (Or.inl ⟨rfl, rfl⟩) (k0 _ hk) ⟨rfl, rfl⟩
    · have hr := ifp hr hc
      refine r_aload_n dX11_at_10 rfl 0 rfl (nl rfl) ?_
      refine r_iload_n dX11_at_11 rfl 1 rfl (Or.inl rfl) ?_
      obtain ⟨v12, hg12, hr⟩ := bnd hr
      refine r_iald dX11_at_12 hg12 ?_
      refine r_goto dX11_at_13 (tgt := 17) (by decide) ?_
      obtain rfl := Option.some.inj hr
      exact r_ret dX11_at_17 rfl (Or.inl ⟨rfl, rfl⟩) (k0 _ hk) ⟨rfl, rfl⟩
end M_X11_at
theorem oX11_at {l : Launch} {D : va_G} {G : gG} {h : hH} {a0 a1 : Int} {r : Int} (hr : fX11_at h a0 a1 = some r) : Ctr l D G true yX11_at M_X11_at [(50, a0), (0, a1)] h (some (0, r), h) :=
  Ctr_of (by decide) rfl (fun z => by cases z) (nl rfl) (fun {p e R s m args below meth c A H0} => by
    exact oX11_at_b0 (K := fun z9 => z9 = r) (fun r9 z => by rw [z]) hr rfl)
/-! X2_part -/
theorem dX2_part_0 : decode cX2_part 0 = .ok (.aload_n 0, 1) := by decide +kernel
theorem dX2_part_1 : decode cX2_part 1 = .ok (.getfield 9, 3) := by decide +kernel
theorem dX2_part_4 : decode cX2_part 4 = .ok (.iload_n 1, 1) := by decide +kernel
theorem dX2_part_5 : decode cX2_part 5 = .ok (.bipush 19, 2) := by decide +kernel
theorem dX2_part_7 : decode cX2_part 7 = .ok (.imul, 1) := by decide +kernel
theorem dX2_part_8 : decode cX2_part 8 = .ok (.iload_n 2, 1) := by decide +kernel
theorem dX2_part_9 : decode cX2_part 9 = .ok (.iadd, 1) := by decide +kernel
theorem dX2_part_10 : decode cX2_part 10 = .ok (.invokestatic 23, 3) := by decide +kernel
theorem dX2_part_13 : decode cX2_part 13 = .ok (.ireturn, 1) := by decide +kernel
abbrev M_X2_part : mM := (cX2_part, 3, RX2, some .int, false, 1, 21, 0, 0)
theorem gX2_part : cI yX2_part M_X2_part 2 := ⟨(wsl_31 _ (List.mem_of_getElem? (i := 12) rfl)), (wsl_31 _ (List.mem_of_getElem? (i := 13) rfl)), (wsl_2 _ (List.mem_of_getElem? (i := 15) rfl)), (wsl_31 _ (List.mem_of_getElem? (i := 14) rfl)), by decide +kernel⟩
noncomputable def fX2_part (h : hH) (a0 a1 a2 : Int) : Option (Int) :=
  (fX11_at h (h a0 3) (w32 ((w32 (a1 * 19)) + a2))).bind fun r10 =>
  some r10
section M_X2_part
variable {p : Program} {l : Launch} {e : Env} {R : Room} {s : State} {m : MethodId} {args : Array Value} {below : List Frame} {meth : Method} {c : Code} {D : va_G} {G : gG} {A : Nat → Prop} {H0 : Heap} {n0 : Int} {x : Option vV × hH} {h : hH}
set_option maxRecDepth 100000 in
set_option maxHeartbeats 4000000 in
theorem oX2_part_b0 {a0 a1 a2 : Int} {K : Int → Prop} (k0 : ∀ r, K (r) → x = (some (0, r), h)) {r : Int} (hr : fX2_part h a0 a1 a2 = some r) (hk : K r) : Wq p l e R s m args below meth c D G A H0 true n0 M_X2_part x 0 0 0 [(0, (12, a0)), (1, (0, a1)), (2, (0, a2))] [] h := by
  unfold fX2_part at hr
  refine r_aload_n dX2_part_0 rfl 0 rfl (nl rfl) ?_
  refine r_get 2 3 (o := a0) (w := (50, h a0 3)) (T := TX2) (ref := "FollowingRefs$Lines") rfl (by decide) rfl (by decide) inlX2 (wsl_5 _ (List.mem_of_getElem? (i := 13) rfl)) rfl dX2_part_1 rfl ?_
  refine r_iload_n dX2_part_4 rfl 1 rfl (Or.inl rfl) ?_
  refine r_bipush dX2_part_5 (by decide) (by decide) ?_
  refine r_imul dX2_part_7 ?_
  refine r_iload_n dX2_part_8 rfl 2 rfl (Or.inl rfl) ?_
  refine r_iadd dX2_part_9 ?_
  obtain ⟨r10, hg10, hr⟩ := bnd hr
  refine k_SN (host := "FollowingRefs") (as := [(50, h a0 3), (0, w32 ((w32 (a1 * 19)) + a2))]) (rest := []) (X := (some (0, r10), h)) (oX11_at hg10) gX11_at rfl (List.mem_of_getElem? (i := 15) rfl) rfl dX2_part_10 rfl ?_
  obtain rfl := Option.some.inj hr
  exact r_ret dX2_part_13 rfl (Or.inl ⟨rfl, rfl⟩) (k0 _ hk) ⟨rfl, rfl⟩
end M_X2_part
theorem oX2_part {l : Launch} {D : va_G} {G : gG} {h : hH} {a0 a1 a2 : Int} {r : Int} (hr : fX2_part h a0 a1 a2 = some r) : Ctr l D G true yX2_part M_X2_part [(12, a0), (0, a1), (0, a2)] h (some (0, r), h) :=
  Ctr_of (by decide) rfl (fun z => by cases z) (nl rfl) (fun {p e R s m args below meth c A H0} => by
    exact oX2_part_b0 (K := fun z9 => z9 = r) (fun r9 z => by rw [z]) hr rfl)
/-! X3_hasRoom -/
theorem dX3_hasRoom_0 : decode cX3_hasRoom 0 = .ok (.aload_n 0, 1) := by decide +kernel
theorem dX3_hasRoom_1 : decode cX3_hasRoom 1 = .ok (.getfield 21, 3) := by decide +kernel
theorem dX3_hasRoom_4 : decode cX3_hasRoom 4 = .ok (.bipush 40, 2) := by decide +kernel
theorem dX3_hasRoom_6 : decode cX3_hasRoom 6 = .ok (.if_icmp .ge 16, 3) := by decide +kernel
theorem dX3_hasRoom_9 : decode cX3_hasRoom 9 = .ok (.aload_n 0, 1) := by decide +kernel
theorem dX3_hasRoom_10 : decode cX3_hasRoom 10 = .ok (.getfield 25, 3) := by decide +kernel
theorem dX3_hasRoom_13 : decode cX3_hasRoom 13 = .ok (.bipush 99, 2) := by decide +kernel
theorem dX3_hasRoom_15 : decode cX3_hasRoom 15 = .ok (.if_icmp .ge 7, 3) := by decide +kernel
theorem dX3_hasRoom_18 : decode cX3_hasRoom 18 = .ok (.iconst 1, 1) := by decide +kernel
theorem dX3_hasRoom_19 : decode cX3_hasRoom 19 = .ok (.goto 4, 3) := by decide +kernel
theorem dX3_hasRoom_22 : decode cX3_hasRoom 22 = .ok (.iconst 0, 1) := by decide +kernel
theorem dX3_hasRoom_23 : decode cX3_hasRoom 23 = .ok (.ireturn, 1) := by decide +kernel
abbrev M_X3_hasRoom : mM := (cX3_hasRoom, 1, RX3, some .boolean, false, 0, 0, 0, 0)
theorem gX3_hasRoom : cI yX3_hasRoom M_X3_hasRoom 0 := ⟨(wsl_33 _ (List.mem_of_getElem? (i := 0) rfl)), (wsl_33 _ (List.mem_of_getElem? (i := 1) rfl)), (wsl_4 _ (List.mem_of_getElem? (i := 5) rfl)), (wsl_33 _ (List.mem_of_getElem? (i := 2) rfl)), by decide +kernel⟩
noncomputable def fX3_hasRoom (h : hH) (a0 : Int) : Option (Int) :=
  if h a0 0 < 40 then
    if h a0 1 < 99 then
      some 1
    else
      some 0
  else
    some 0
section M_X3_hasRoom
variable {p : Program} {l : Launch} {e : Env} {R : Room} {s : State} {m : MethodId} {args : Array Value} {below : List Frame} {meth : Method} {c : Code} {D : va_G} {G : gG} {A : Nat → Prop} {H0 : Heap} {n0 : Int} {x : Option vV × hH} {h : hH}
set_option maxRecDepth 100000 in
set_option maxHeartbeats 4000000 in
theorem oX3_hasRoom_b0 {a0 : Int} {K : Int → Prop} (k0 : ∀ r, K (r) → x = (some (2, r), h)) {r : Int} (hr : fX3_hasRoom h a0 = some r) (hk : K r) : Wq p l e R s m args below meth c D G A H0 true n0 M_X3_hasRoom x 0 0 0 [(0, (13, a0))] [] h := by
  unfold fX3_hasRoom at hr
  refine r_aload_n dX3_hasRoom_0 rfl 0 rfl (nl rfl) ?_
  refine r_get 3 0 (o := a0) (w := (0, h a0 0)) (T := TX3) (ref := "FollowingRefs$Rows") rfl (by decide) rfl (by decide) inlX3 (wsl_22 _ (List.mem_of_getElem? (i := 23) rfl)) rfl dX3_hasRoom_1 rfl ?_
  refine r_bipush dX3_hasRoom_4 (by decide) (by decide) ?_
  refine r_icmp_ge dX3_hasRoom_6 (tgt := 22) (by decide) (fun hc => ?_) (fun hc => ?_)
  · have hr := ifn hr hc
    refine r_iconst dX3_hasRoom_22 (by decide) ?_
    refine r_scast 0 (v := (0, 0)) (w := (2, 0)) rfl cz (fun _ => Or.inl rfl) (st' := [(2, 0)]) rfl ?_
    obtain rfl := Option.some.inj hr
    exact r_ret dX3_hasRoom_23 rfl (Or.inr ⟨rfl, rfl⟩) (k0 _ hk) ⟨rfl, rfl⟩
  · have hr := ifp hr hc
    refine r_aload_n dX3_hasRoom_9 rfl 0 rfl (nl rfl) ?_
    refine r_get 3 1 (o := a0) (w := (0, h a0 1)) (T := TX3) (ref := "FollowingRefs$Rows") rfl (by decide) rfl (by decide) inlX3 (wsl_23 _ (List.mem_of_getElem? (i := 0) rfl)) rfl dX3_hasRoom_10 rfl ?_
    refine r_bipush dX3_hasRoom_13 (by decide) (by decide) ?_
    refine r_icmp_ge dX3_hasRoom_15 (tgt := 22) (by decide) (fun hc => ?_) (fun hc => ?_)
    · have hr := ifn hr hc
      refine r_iconst dX3_hasRoom_22 (by decide) ?_
      refine r_scast 0 (v := (0, 0)) (w := (2, 0)) rfl cz (fun _ => Or.inl rfl) (st' := [(2, 0)]) rfl ?_
      obtain rfl := Option.some.inj hr
      exact r_ret dX3_hasRoom_23 rfl (Or.inr ⟨rfl, rfl⟩) (k0 _ hk) ⟨rfl, rfl⟩
    · have hr := ifp hr hc
      refine r_iconst dX3_hasRoom_18 (by decide) ?_
      refine r_goto dX3_hasRoom_19 (tgt := 23) (by decide) ?_
      refine r_scast 0 (v := (0, 1)) (w := (2, 1)) rfl cz (fun _ => Or.inr rfl) (st' := [(2, 1)]) rfl ?_
      obtain rfl := Option.some.inj hr
      exact r_ret dX3_hasRoom_23 rfl (Or.inr ⟨rfl, rfl⟩) (k0 _ hk) ⟨rfl, rfl⟩
end M_X3_hasRoom
theorem oX3_hasRoom {l : Launch} {D : va_G} {G : gG} {h : hH} {a0 : Int} {r : Int} (hr : fX3_hasRoom h a0 = some r) : Ctr l D G true yX3_hasRoom M_X3_hasRoom [(13, a0)] h (some (2, r), h) :=
  Ctr_of (by decide) rfl (fun z => by cases z) (nl rfl) (fun {p e R s m args below meth c A H0} => by
    exact oX3_hasRoom_b0 (K := fun z9 => z9 = r) (fun r9 z => by rw [z]) hr rfl)
/-! X11_copy -/
theorem dX11_copy_0 : decode cX11_copy 0 = .ok (.aload_n 0, 1) := by decide +kernel
theorem dX11_copy_1 : decode cX11_copy 1 = .ok (.iconst 0, 1) := by decide +kernel
theorem dX11_copy_2 : decode cX11_copy 2 = .ok (.aload_n 1, 1) := by decide +kernel
theorem dX11_copy_3 : decode cX11_copy 3 = .ok (.iconst 0, 1) := by decide +kernel
theorem dX11_copy_4 : decode cX11_copy 4 = .ok (.aload_n 0, 1) := by decide +kernel
theorem dX11_copy_5 : decode cX11_copy 5 = .ok (.arraylength, 1) := by decide +kernel
theorem dX11_copy_6 : decode cX11_copy 6 = .ok (.aload_n 1, 1) := by decide +kernel
theorem dX11_copy_7 : decode cX11_copy 7 = .ok (.arraylength, 1) := by decide +kernel
theorem dX11_copy_8 : decode cX11_copy 8 = .ok (.invokestatic 404, 3) := by decide +kernel
theorem dX11_copy_11 : decode cX11_copy 11 = .ok (.invokestatic 409, 3) := by decide +kernel
theorem dX11_copy_14 : decode cX11_copy 14 = .ok (.return_, 1) := by decide +kernel
abbrev M_X11_copy : mM := (cX11_copy, 2, RX11, none, false, 1, 84, 0, 0)
theorem gX11_copy : cS yX11_copy M_X11_copy 2 := ⟨(wsl_22 _ (List.mem_of_getElem? (i := 12) rfl)), (wsl_1 _ (List.mem_of_getElem? (i := 2) rfl)), (wsl_22 _ (List.mem_of_getElem? (i := 13) rfl)), by decide +kernel⟩
noncomputable def fX11_copy (h : hH) (a0 a1 : Int) : Option (hH) :=
  (acp h a0 0 a1 0 (miD (h a0 (-1)) (h a1 (-1)))).bind fun h11 =>
  some h11
section M_X11_copy
variable {p : Program} {l : Launch} {e : Env} {R : Room} {s : State} {m : MethodId} {args : Array Value} {below : List Frame} {meth : Method} {c : Code} {D : va_G} {G : gG} {A : Nat → Prop} {H0 : Heap} {n0 : Int} {x : Option vV × hH} {h : hH}
set_option maxRecDepth 100000 in
set_option maxHeartbeats 4000000 in
theorem oX11_copy_b0 {a0 a1 : Int} {K : hH → Prop} (k0 : ∀ r, K (r) → x = (none, r)) {r : hH} (hr : fX11_copy h a0 a1 = some r) (hk : K r) : Wq p l e R s m args below meth c D G A H0 true n0 M_X11_copy x 0 0 0 [(0, (50, a0)), (1, (50, a1))] [] h := by
  unfold fX11_copy at hr
  refine r_aload_n dX11_copy_0 rfl 0 rfl (nl rfl) ?_
  refine r_iconst dX11_copy_1 (by decide) ?_
  refine r_aload_n dX11_copy_2 rfl 1 rfl (nl rfl) ?_
  refine r_iconst dX11_copy_3 (by decide) ?_
  refine r_aload_n dX11_copy_4 rfl 0 rfl (nl rfl) ?_
  refine r_alen (t := 50) (by decide) (by decide) dX11_copy_5 ?_
  refine r_aload_n dX11_copy_6 rfl 1 rfl (nl rfl) ?_
  refine r_alen (t := 50) (by decide) (by decide) dX11_copy_7 ?_
  refine r_min dX11_copy_8 (wsl_22 _ (List.mem_of_getElem? (i := 7) rfl)) (wsl_12 _ (List.mem_of_getElem? (i := 8) rfl)) (wsl_12 _ (List.mem_of_getElem? (i := 9) rfl)) (wsl_12 _ (List.mem_of_getElem? (i := 10) rfl)) ⟨nl rfl, nl rfl⟩ ⟨nl rfl, nl rfl⟩ ?_
  obtain ⟨h11, hg11, hr⟩ := bnd hr
  refine r_acpi dX11_copy_11 hg11 (wsl_22 _ (List.mem_of_getElem? (i := 8) rfl)) (wsl_22 _ (List.mem_of_getElem? (i := 9) rfl)) (wsl_22 _ (List.mem_of_getElem? (i := 10) rfl)) (wsl_22 _ (List.mem_of_getElem? (i := 11) rfl)) ⟨nl rfl, nl rfl⟩ ?_
  obtain rfl := Option.some.inj hr
  exact r_vret dX11_copy_14 rfl (k0 _ hk) ⟨rfl, rfl⟩
end M_X11_copy
theorem oX11_copy {l : Launch} {D : va_G} {G : gG} {h : hH} {a0 a1 : Int} {r : hH} (hr : fX11_copy h a0 a1 = some r) : Ctr l D G true yX11_copy M_X11_copy [(50, a0), (50, a1)] h (none, r) :=
  Ctr_of (by decide) rfl (fun z => by cases z) (nl rfl) (fun {p e R s m args below meth c A H0} => by
    exact oX11_copy_b0 (K := fun z9 => z9 = r) (fun r9 z => by rw [z]) hr rfl)
/-! X3_copyFrom -/
theorem dX3_copyFrom_0 : decode cX3_copyFrom 0 = .ok (.aload_n 0, 1) := by decide +kernel
theorem dX3_copyFrom_1 : decode cX3_copyFrom 1 = .ok (.aload_n 1, 1) := by decide +kernel
theorem dX3_copyFrom_2 : decode cX3_copyFrom 2 = .ok (.getfield 21, 3) := by decide +kernel
theorem dX3_copyFrom_5 : decode cX3_copyFrom 5 = .ok (.putfield 21, 3) := by decide +kernel
theorem dX3_copyFrom_8 : decode cX3_copyFrom 8 = .ok (.aload_n 0, 1) := by decide +kernel
theorem dX3_copyFrom_9 : decode cX3_copyFrom 9 = .ok (.aload_n 1, 1) := by decide +kernel
theorem dX3_copyFrom_10 : decode cX3_copyFrom 10 = .ok (.getfield 25, 3) := by decide +kernel
theorem dX3_copyFrom_13 : decode cX3_copyFrom 13 = .ok (.putfield 25, 3) := by decide +kernel
theorem dX3_copyFrom_16 : decode cX3_copyFrom 16 = .ok (.aload_n 1, 1) := by decide +kernel
theorem dX3_copyFrom_17 : decode cX3_copyFrom 17 = .ok (.getfield 9, 3) := by decide +kernel
theorem dX3_copyFrom_20 : decode cX3_copyFrom 20 = .ok (.aload_n 0, 1) := by decide +kernel
theorem dX3_copyFrom_21 : decode cX3_copyFrom 21 = .ok (.getfield 9, 3) := by decide +kernel
theorem dX3_copyFrom_24 : decode cX3_copyFrom 24 = .ok (.invokestatic 28, 3) := by decide +kernel
theorem dX3_copyFrom_27 : decode cX3_copyFrom 27 = .ok (.aload_n 1, 1) := by decide +kernel
theorem dX3_copyFrom_28 : decode cX3_copyFrom 28 = .ok (.getfield 15, 3) := by decide +kernel
theorem dX3_copyFrom_31 : decode cX3_copyFrom 31 = .ok (.aload_n 0, 1) := by decide +kernel
theorem dX3_copyFrom_32 : decode cX3_copyFrom 32 = .ok (.getfield 15, 3) := by decide +kernel
theorem dX3_copyFrom_35 : decode cX3_copyFrom 35 = .ok (.invokestatic 28, 3) := by decide +kernel
theorem dX3_copyFrom_38 : decode cX3_copyFrom 38 = .ok (.aload_n 1, 1) := by decide +kernel
theorem dX3_copyFrom_39 : decode cX3_copyFrom 39 = .ok (.getfield 18, 3) := by decide +kernel
theorem dX3_copyFrom_42 : decode cX3_copyFrom 42 = .ok (.aload_n 0, 1) := by decide +kernel
theorem dX3_copyFrom_43 : decode cX3_copyFrom 43 = .ok (.getfield 18, 3) := by decide +kernel
theorem dX3_copyFrom_46 : decode cX3_copyFrom 46 = .ok (.invokestatic 28, 3) := by decide +kernel
theorem dX3_copyFrom_49 : decode cX3_copyFrom 49 = .ok (.return_, 1) := by decide +kernel
abbrev M_X3_copyFrom : mM := (cX3_copyFrom, 2, RX3, none, false, 2, 105, 0, 0)
theorem gX3_copyFrom : cI yX3_copyFrom M_X3_copyFrom 1 := ⟨(wsl_33 _ (List.mem_of_getElem? (i := 4) rfl)), (wsl_33 _ (List.mem_of_getElem? (i := 5) rfl)), (wsl_4 _ (List.mem_of_getElem? (i := 5) rfl)), (wsl_33 _ (List.mem_of_getElem? (i := 6) rfl)), by decide +kernel⟩
noncomputable def fX3_copyFrom (h : hH) (a0 a1 : Int) : Option (hH) :=
  (pput h a0 0 (h a1 0)).bind fun h5 =>
  (pput h5 a0 1 (h5 a1 1)).bind fun h13 =>
  (fX11_copy h13 (h13 a1 2) (h13 a0 2)).bind fun h24 =>
  (fX11_copy h24 (h24 a1 3) (h24 a0 3)).bind fun h35 =>
  (fX11_copy h35 (h35 a1 4) (h35 a0 4)).bind fun h46 =>
  some h46
section M_X3_copyFrom
variable {p : Program} {l : Launch} {e : Env} {R : Room} {s : State} {m : MethodId} {args : Array Value} {below : List Frame} {meth : Method} {c : Code} {D : va_G} {G : gG} {A : Nat → Prop} {H0 : Heap} {n0 : Int} {x : Option vV × hH} {h : hH}
set_option maxRecDepth 100000 in
set_option maxHeartbeats 4000000 in
theorem oX3_copyFrom_b0 {a0 a1 : Int} {K : hH → Prop} (k0 : ∀ r, K (r) → x = (none, r)) {r : hH} (hr : fX3_copyFrom h a0 a1 = some r) (hk : K r) : Wq p l e R s m args below meth c D G A H0 true n0 M_X3_copyFrom x 0 0 0 [(0, (13, a0)), (1, (13, a1))] [] h := by
  unfold fX3_copyFrom at hr
  refine r_aload_n dX3_copyFrom_0 rfl 0 rfl (nl rfl) ?_
  refine r_aload_n dX3_copyFrom_1 rfl 1 rfl (nl rfl) ?_
  refine r_get 3 0 (o := a1) (w := (0, h a1 0)) (T := TX3) (ref := "FollowingRefs$Rows") rfl (by decide) rfl (by decide) inlX3 (wsl_22 _ (List.mem_of_getElem? (i := 23) rfl)) rfl dX3_copyFrom_2 rfl ?_
  obtain ⟨h5, hg5, hr⟩ := bnd hr
  refine r_put' 3 0 (t := 0) (ref := "FollowingRefs$Rows") hg5 rfl tyX3 tyX3_ok nmX3 rfl (by decide) rfl (by decide) inlX3 (wsl_22 _ (List.mem_of_getElem? (i := 23) rfl)) rfl rfl (by decide +kernel) (by decide) rfl (Or.inl ⟨rfl, rfl⟩) dX3_copyFrom_5 ?_
  refine r_aload_n dX3_copyFrom_8 rfl 0 rfl (nl rfl) ?_
  refine r_aload_n dX3_copyFrom_9 rfl 1 rfl (nl rfl) ?_
  refine r_get 3 1 (o := a1) (w := (0, h5 a1 1)) (T := TX3) (ref := "FollowingRefs$Rows") rfl (by decide) rfl (by decide) inlX3 (wsl_23 _ (List.mem_of_getElem? (i := 0) rfl)) rfl dX3_copyFrom_10 rfl ?_
  obtain ⟨h13, hg13, hr⟩ := bnd hr
  refine r_put' 3 1 (t := 0) (ref := "FollowingRefs$Rows") hg13 rfl tyX3 tyX3_ok nmX3 rfl (by decide) rfl (by decide) inlX3 (wsl_23 _ (List.mem_of_getElem? (i := 0) rfl)) rfl rfl (by decide +kernel) (by decide) rfl (Or.inl ⟨rfl, rfl⟩) dX3_copyFrom_13 ?_
  refine r_aload_n dX3_copyFrom_16 rfl 1 rfl (nl rfl) ?_
  refine r_get 3 2 (o := a1) (w := (50, h13 a1 2)) (T := TX3) (ref := "FollowingRefs$Rows") rfl (by decide) rfl (by decide) inlX3 (wsl_4 _ (List.mem_of_getElem? (i := 11) rfl)) rfl dX3_copyFrom_17 rfl ?_
  refine r_aload_n dX3_copyFrom_20 rfl 0 rfl (nl rfl) ?_
  refine r_get 3 2 (o := a0) (w := (50, h13 a0 2)) (T := TX3) (ref := "FollowingRefs$Rows") rfl (by decide) rfl (by decide) inlX3 (wsl_4 _ (List.mem_of_getElem? (i := 11) rfl)) rfl dX3_copyFrom_21 rfl ?_
  obtain ⟨h24, hg24, hr⟩ := bnd hr
  refine k_SN (host := "FollowingRefs") (as := [(50, h13 a1 2), (50, h13 a0 2)]) (rest := []) (X := (none, h24)) (oX11_copy hg24) gX11_copy rfl (List.mem_of_getElem? (i := 18) rfl) rfl dX3_copyFrom_24 rfl ?_
  refine r_aload_n dX3_copyFrom_27 rfl 1 rfl (nl rfl) ?_
  refine r_get 3 3 (o := a1) (w := (50, h24 a1 3)) (T := TX3) (ref := "FollowingRefs$Rows") rfl (by decide) rfl (by decide) inlX3 (wsl_4 _ (List.mem_of_getElem? (i := 12) rfl)) rfl dX3_copyFrom_28 rfl ?_
  refine r_aload_n dX3_copyFrom_31 rfl 0 rfl (nl rfl) ?_
  refine r_get 3 3 (o := a0) (w := (50, h24 a0 3)) (T := TX3) (ref := "FollowingRefs$Rows") rfl (by decide) rfl (by decide) inlX3 (wsl_4 _ (List.mem_of_getElem? (i := 12) rfl)) rfl dX3_copyFrom_32 rfl ?_
  obtain ⟨h35, hg35, hr⟩ := bnd hr
  refine k_SN (host := "FollowingRefs") (as := [(50, h24 a1 3), (50, h24 a0 3)]) (rest := []) (X := (none, h35)) (oX11_copy hg35) gX11_copy rfl (List.mem_of_getElem? (i := 18) rfl) rfl dX3_copyFrom_35 rfl ?_
  refine r_aload_n dX3_copyFrom_38 rfl 1 rfl (nl rfl) ?_
  refine r_get 3 4 (o := a1) (w := (50, h35 a1 4)) (T := TX3) (ref := "FollowingRefs$Rows") rfl (by decide) rfl (by decide) inlX3 (wsl_4 _ (List.mem_of_getElem? (i := 13) rfl)) rfl dX3_copyFrom_39 rfl ?_
  refine r_aload_n dX3_copyFrom_42 rfl 0 rfl (nl rfl) ?_
  refine r_get 3 4 (o := a0) (w := (50, h35 a0 4)) (T := TX3) (ref := "FollowingRefs$Rows") rfl (by decide) rfl (by decide) inlX3 (wsl_4 _ (List.mem_of_getElem? (i := 13) rfl)) rfl dX3_copyFrom_43 rfl ?_
  obtain ⟨h46, hg46, hr⟩ := bnd hr
  refine k_SN (host := "FollowingRefs") (as := [(50, h35 a1 4), (50, h35 a0 4)]) (rest := []) (X := (none, h46)) (oX11_copy hg46) gX11_copy rfl (List.mem_of_getElem? (i := 18) rfl) rfl dX3_copyFrom_46 rfl ?_
  obtain rfl := Option.some.inj hr
  exact r_vret dX3_copyFrom_49 rfl (k0 _ hk) ⟨rfl, rfl⟩
end M_X3_copyFrom
theorem oX3_copyFrom {l : Launch} {D : va_G} {G : gG} {h : hH} {a0 a1 : Int} {r : hH} (hr : fX3_copyFrom h a0 a1 = some r) : Ctr l D G true yX3_copyFrom M_X3_copyFrom [(13, a0), (13, a1)] h (none, r) :=
  Ctr_of (by decide) rfl (fun z => by cases z) (nl rfl) (fun {p e R s m args below meth c A H0} => by
    exact oX3_copyFrom_b0 (K := fun z9 => z9 = r) (fun r9 z => by rw [z]) hr rfl)
/-! X11_put -/
theorem dX11_put_0 : decode cX11_put 0 = .ok (.iload_n 1, 1) := by decide +kernel
theorem dX11_put_1 : decode cX11_put 1 = .ok (.ifCond .lt 13, 3) := by decide +kernel
theorem dX11_put_4 : decode cX11_put 4 = .ok (.iload_n 1, 1) := by decide +kernel
theorem dX11_put_5 : decode cX11_put 5 = .ok (.aload_n 0, 1) := by decide +kernel
theorem dX11_put_6 : decode cX11_put 6 = .ok (.arraylength, 1) := by decide +kernel
theorem dX11_put_7 : decode cX11_put 7 = .ok (.if_icmp .ge 7, 3) := by decide +kernel
theorem dX11_put_10 : decode cX11_put 10 = .ok (.aload_n 0, 1) := by decide +kernel
theorem dX11_put_11 : decode cX11_put 11 = .ok (.iload_n 1, 1) := by decide +kernel
theorem dX11_put_12 : decode cX11_put 12 = .ok (.iload_n 2, 1) := by decide +kernel
theorem dX11_put_13 : decode cX11_put 13 = .ok (.iastore, 1) := by decide +kernel
theorem dX11_put_14 : decode cX11_put 14 = .ok (.return_, 1) := by decide +kernel
abbrev M_X11_put : mM := (cX11_put, 3, RX11, none, false, 0, 0, 0, 0)
theorem gX11_put : cS yX11_put M_X11_put 3 := ⟨(wsl_17 _ (List.mem_of_getElem? (i := 8) rfl)), (wsl_1 _ (List.mem_of_getElem? (i := 2) rfl)), (wsl_17 _ (List.mem_of_getElem? (i := 9) rfl)), by decide +kernel⟩
noncomputable def fX11_put (h : hH) (a0 a1 a2 : Int) : Option (hH) :=
  if a1 < 0 then
    some h
  else
    if a1 < h a0 (-1) then
      (aput h a0 a1 a2).bind fun h13 =>
      some h13
    else
      some h
section M_X11_put
variable {p : Program} {l : Launch} {e : Env} {R : Room} {s : State} {m : MethodId} {args : Array Value} {below : List Frame} {meth : Method} {c : Code} {D : va_G} {G : gG} {A : Nat → Prop} {H0 : Heap} {n0 : Int} {x : Option vV × hH} {h : hH}
set_option maxRecDepth 100000 in
set_option maxHeartbeats 4000000 in
theorem oX11_put_b0 {a0 a1 a2 : Int} {K : hH → Prop} (k0 : ∀ r, K (r) → x = (none, r)) {r : hH} (hr : fX11_put h a0 a1 a2 = some r) (hk : K r) : Wq p l e R s m args below meth c D G A H0 true n0 M_X11_put x 0 0 0 [(0, (50, a0)), (1, (0, a1)), (2, (0, a2))] [] h := by
  unfold fX11_put at hr
  refine r_iload_n dX11_put_0 rfl 1 rfl (Or.inl rfl) ?_
  refine r_if_lt dX11_put_1 (tgt := 14) (by decide) (fun hc => ?_) (fun hc => ?_)
  · have hr := ifp hr hc
    obtain rfl := Option.some.inj hr
    exact r_vret dX11_put_14 rfl (k0 _ hk) ⟨rfl, rfl⟩
  · have hr := ifn hr hc
    refine r_iload_n dX11_put_4 rfl 1 rfl (Or.inl rfl) ?_
    refine r_aload_n dX11_put_5 rfl 0 rfl (nl rfl) ?_
    refine r_alen (t := 50) (by decide) (by decide) dX11_put_6 ?_
    refine r_icmp_ge dX11_put_7 (tgt := 14) (by decide) (fun hc => ?_) (fun hc => ?_)
    · have hr := ifn hr hc
      obtain rfl := Option.some.inj hr
      exact r_vret dX11_put_14 rfl (k0 _ hk) ⟨rfl, rfl⟩
    · have hr := ifp hr hc
      refine r_aload_n dX11_put_10 rfl 0 rfl (nl rfl) ?_
      refine r_iload_n dX11_put_11 rfl 1 rfl (Or.inl rfl) ?_
      refine r_iload_n dX11_put_12 rfl 2 rfl (Or.inl rfl) ?_
      obtain ⟨h13, hg13, hr⟩ := bnd hr
      refine r_iast dX11_put_13 hg13 ?_
      obtain rfl := Option.some.inj hr
      exact r_vret dX11_put_14 rfl (k0 _ hk) ⟨rfl, rfl⟩
end M_X11_put
theorem oX11_put {l : Launch} {D : va_G} {G : gG} {h : hH} {a0 a1 a2 : Int} {r : hH} (hr : fX11_put h a0 a1 a2 = some r) : Ctr l D G true yX11_put M_X11_put [(50, a0), (0, a1), (0, a2)] h (none, r) :=
  Ctr_of (by decide) rfl (fun z => by cases z) (nl rfl) (fun {p e R s m args below meth c A H0} => by
    exact oX11_put_b0 (K := fun z9 => z9 = r) (fun r9 z => by rw [z]) hr rfl)
/-! X3_setValue -/
theorem dX3_setValue_0 : decode cX3_setValue 0 = .ok (.aload_n 0, 1) := by decide +kernel
theorem dX3_setValue_1 : decode cX3_setValue 1 = .ok (.getfield 18, 3) := by decide +kernel
theorem dX3_setValue_4 : decode cX3_setValue 4 = .ok (.iload_n 1, 1) := by decide +kernel
theorem dX3_setValue_5 : decode cX3_setValue 5 = .ok (.iconst 4, 1) := by decide +kernel
theorem dX3_setValue_6 : decode cX3_setValue 6 = .ok (.imul, 1) := by decide +kernel
theorem dX3_setValue_7 : decode cX3_setValue 7 = .ok (.iload_n 2, 1) := by decide +kernel
theorem dX3_setValue_8 : decode cX3_setValue 8 = .ok (.iadd, 1) := by decide +kernel
theorem dX3_setValue_9 : decode cX3_setValue 9 = .ok (.iload_n 3, 1) := by decide +kernel
theorem dX3_setValue_10 : decode cX3_setValue 10 = .ok (.invokestatic 32, 3) := by decide +kernel
theorem dX3_setValue_13 : decode cX3_setValue 13 = .ok (.return_, 1) := by decide +kernel
abbrev M_X3_setValue : mM := (cX3_setValue, 4, RX3, none, false, 1, 22, 0, 0)
theorem gX3_setValue : cI yX3_setValue M_X3_setValue 3 := ⟨(wsl_33 _ (List.mem_of_getElem? (i := 13) rfl)), (wsl_33 _ (List.mem_of_getElem? (i := 14) rfl)), (wsl_4 _ (List.mem_of_getElem? (i := 5) rfl)), (wsl_33 _ (List.mem_of_getElem? (i := 15) rfl)), by decide +kernel⟩
noncomputable def fX3_setValue (h : hH) (a0 a1 a2 a3 : Int) : Option (hH) :=
  (fX11_put h (h a0 4) (w32 ((w32 (a1 * 4)) + a2)) a3).bind fun h10 =>
  some h10
section M_X3_setValue
variable {p : Program} {l : Launch} {e : Env} {R : Room} {s : State} {m : MethodId} {args : Array Value} {below : List Frame} {meth : Method} {c : Code} {D : va_G} {G : gG} {A : Nat → Prop} {H0 : Heap} {n0 : Int} {x : Option vV × hH} {h : hH}
set_option maxRecDepth 100000 in
set_option maxHeartbeats 4000000 in
theorem oX3_setValue_b0 {a0 a1 a2 a3 : Int} {K : hH → Prop} (k0 : ∀ r, K (r) → x = (none, r)) {r : hH} (hr : fX3_setValue h a0 a1 a2 a3 = some r) (hk : K r) : Wq p l e R s m args below meth c D G A H0 true n0 M_X3_setValue x 0 0 0 [(0, (13, a0)), (1, (0, a1)), (2, (0, a2)), (3, (0, a3))] [] h := by
  unfold fX3_setValue at hr
  refine r_aload_n dX3_setValue_0 rfl 0 rfl (nl rfl) ?_
  refine r_get 3 4 (o := a0) (w := (50, h a0 4)) (T := TX3) (ref := "FollowingRefs$Rows") rfl (by decide) rfl (by decide) inlX3 (wsl_4 _ (List.mem_of_getElem? (i := 13) rfl)) rfl dX3_setValue_1 rfl ?_
  refine r_iload_n dX3_setValue_4 rfl 1 rfl (Or.inl rfl) ?_
  refine r_iconst dX3_setValue_5 (by decide) ?_
  refine r_imul dX3_setValue_6 ?_
  refine r_iload_n dX3_setValue_7 rfl 2 rfl (Or.inl rfl) ?_
  refine r_iadd dX3_setValue_8 ?_
  refine r_iload_n dX3_setValue_9 rfl 3 rfl (Or.inl rfl) ?_
  obtain ⟨h10, hg10, hr⟩ := bnd hr
  refine k_SN (host := "FollowingRefs") (as := [(50, h a0 4), (0, w32 ((w32 (a1 * 4)) + a2)), (0, a3)]) (rest := []) (X := (none, h10)) (oX11_put hg10) gX11_put rfl (List.mem_of_getElem? (i := 19) rfl) rfl dX3_setValue_10 rfl ?_
  obtain rfl := Option.some.inj hr
  exact r_vret dX3_setValue_13 rfl (k0 _ hk) ⟨rfl, rfl⟩
end M_X3_setValue
theorem oX3_setValue {l : Launch} {D : va_G} {G : gG} {h : hH} {a0 a1 a2 a3 : Int} {r : hH} (hr : fX3_setValue h a0 a1 a2 a3 = some r) : Ctr l D G true yX3_setValue M_X3_setValue [(13, a0), (0, a1), (0, a2), (0, a3)] h (none, r) :=
  Ctr_of (by decide) rfl (fun z => by cases z) (nl rfl) (fun {p e R s m args below meth c A H0} => by
    exact oX3_setValue_b0 (K := fun z9 => z9 = r) (fun r9 z => by rw [z]) hr rfl)
/-! X3_add -/
theorem dX3_add_0 : decode cX3_add 0 = .ok (.aload_n 0, 1) := by decide +kernel
theorem dX3_add_1 : decode cX3_add 1 = .ok (.getfield 9, 3) := by decide +kernel
theorem dX3_add_4 : decode cX3_add 4 = .ok (.aload_n 0, 1) := by decide +kernel
theorem dX3_add_5 : decode cX3_add 5 = .ok (.getfield 21, 3) := by decide +kernel
theorem dX3_add_8 : decode cX3_add 8 = .ok (.aload_n 0, 1) := by decide +kernel
theorem dX3_add_9 : decode cX3_add 9 = .ok (.getfield 25, 3) := by decide +kernel
theorem dX3_add_12 : decode cX3_add 12 = .ok (.invokestatic 32, 3) := by decide +kernel
theorem dX3_add_15 : decode cX3_add 15 = .ok (.aload_n 0, 1) := by decide +kernel
theorem dX3_add_16 : decode cX3_add 16 = .ok (.getfield 15, 3) := by decide +kernel
theorem dX3_add_19 : decode cX3_add 19 = .ok (.aload_n 0, 1) := by decide +kernel
theorem dX3_add_20 : decode cX3_add 20 = .ok (.getfield 21, 3) := by decide +kernel
theorem dX3_add_23 : decode cX3_add 23 = .ok (.iload_n 1, 1) := by decide +kernel
theorem dX3_add_24 : decode cX3_add 24 = .ok (.invokestatic 32, 3) := by decide +kernel
theorem dX3_add_27 : decode cX3_add 27 = .ok (.iconst 0, 1) := by decide +kernel
theorem dX3_add_28 : decode cX3_add 28 = .ok (.istore 4, 2) := by decide +kernel
theorem dX3_add_30 : decode cX3_add 30 = .ok (.iload 4, 2) := by decide +kernel
theorem dX3_add_32 : decode cX3_add 32 = .ok (.iconst 4, 1) := by decide +kernel
theorem dX3_add_33 : decode cX3_add 33 = .ok (.if_icmp .ge 28, 3) := by decide +kernel
theorem dX3_add_36 : decode cX3_add 36 = .ok (.aload_n 0, 1) := by decide +kernel
theorem dX3_add_37 : decode cX3_add 37 = .ok (.aload_n 0, 1) := by decide +kernel
theorem dX3_add_38 : decode cX3_add 38 = .ok (.getfield 21, 3) := by decide +kernel
theorem dX3_add_41 : decode cX3_add 41 = .ok (.iload 4, 2) := by decide +kernel
theorem dX3_add_43 : decode cX3_add 43 = .ok (.aload_n 2, 1) := by decide +kernel
theorem dX3_add_44 : decode cX3_add 44 = .ok (.iload_n 3, 1) := by decide +kernel
theorem dX3_add_45 : decode cX3_add 45 = .ok (.iconst 3, 1) := by decide +kernel
theorem dX3_add_46 : decode cX3_add 46 = .ok (.iload 4, 2) := by decide +kernel
theorem dX3_add_48 : decode cX3_add 48 = .ok (.iadd, 1) := by decide +kernel
theorem dX3_add_49 : decode cX3_add 49 = .ok (.invokevirtual 36, 3) := by decide +kernel
theorem dX3_add_52 : decode cX3_add 52 = .ok (.invokevirtual 42, 3) := by decide +kernel
theorem dX3_add_55 : decode cX3_add 55 = .ok (.iinc 4 1, 3) := by decide +kernel
theorem dX3_add_58 : decode cX3_add 58 = .ok (.goto (-28), 3) := by decide +kernel
theorem dX3_add_61 : decode cX3_add 61 = .ok (.aload_n 0, 1) := by decide +kernel
theorem dX3_add_62 : decode cX3_add 62 = .ok (.dup, 1) := by decide +kernel
theorem dX3_add_63 : decode cX3_add 63 = .ok (.getfield 21, 3) := by decide +kernel
theorem dX3_add_66 : decode cX3_add 66 = .ok (.iconst 1, 1) := by decide +kernel
theorem dX3_add_67 : decode cX3_add 67 = .ok (.iadd, 1) := by decide +kernel
theorem dX3_add_68 : decode cX3_add 68 = .ok (.putfield 21, 3) := by decide +kernel
theorem dX3_add_71 : decode cX3_add 71 = .ok (.aload_n 0, 1) := by decide +kernel
theorem dX3_add_72 : decode cX3_add 72 = .ok (.dup, 1) := by decide +kernel
theorem dX3_add_73 : decode cX3_add 73 = .ok (.getfield 25, 3) := by decide +kernel
theorem dX3_add_76 : decode cX3_add 76 = .ok (.iconst 1, 1) := by decide +kernel
theorem dX3_add_77 : decode cX3_add 77 = .ok (.iadd, 1) := by decide +kernel
theorem dX3_add_78 : decode cX3_add 78 = .ok (.putfield 25, 3) := by decide +kernel
theorem dX3_add_81 : decode cX3_add 81 = .ok (.return_, 1) := by decide +kernel
abbrev M_X3_add : mM := (cX3_add, 5, RX3, none, false, 2, 45, 0, 0)
theorem gX3_add : cI yX3_add M_X3_add 3 := ⟨(wsl_33 _ (List.mem_of_getElem? (i := 8) rfl)), (wsl_33 _ (List.mem_of_getElem? (i := 9) rfl)), (wsl_4 _ (List.mem_of_getElem? (i := 5) rfl)), (wsl_33 _ (List.mem_of_getElem? (i := 10) rfl)), by decide +kernel⟩
noncomputable def fX3_add_s30 (h0 : hH) (a0 a2 a3 : Int) : hH × Int → Option ((hH × Int) ⊕ (hH)) := fun (h, l4) =>
  if l4 < 4 then
    (fX2_part h a2 a3 (w32 (3 + l4))).bind fun r49 =>
    (fX3_setValue h a0 (h a0 0) l4 r49).bind fun h52 =>
    some (.inl (h52, w32 (l4 + 1)))
  else
    (pput h a0 0 (w32 ((h a0 0) + 1))).bind fun h68 =>
    (pput h68 a0 1 (w32 ((h68 a0 1) + 1))).bind fun h78 =>
    some (.inr (h78))
noncomputable def fX3_add (h : hH) (a0 a1 a2 a3 : Int) : Option (hH) :=
  (fX11_put h (h a0 2) (h a0 0) (h a0 1)).bind fun h12 =>
  (fX11_put h12 (h12 a0 3) (h12 a0 0) a1).bind fun h24 =>
  lpO (fX3_add_s30 h24 a0 a2 a3) (h24, 0)
section M_X3_add
variable {p : Program} {l : Launch} {e : Env} {R : Room} {s : State} {m : MethodId} {args : Array Value} {below : List Frame} {meth : Method} {c : Code} {D : va_G} {G : gG} {A : Nat → Prop} {H0 : Heap} {n0 : Int} {x : Option vV × hH} {h : hH}
set_option maxRecDepth 100000 in
set_option maxHeartbeats 4000000 in
theorem oX3_add_s30 {h0 : hH} {a0 a2 a3 l4 : Int} {K : (hH × Int) ⊕ (hH) → Prop} (k0 : ∀ r, K (.inr (r)) → x = (none, r)) (k1 : ∀ (h : hH) (l4 : Int), K (.inl (h, l4)) → Wq p l e R s m args below meth c D G A H0 true n0 M_X3_add x 0 0 30 [(0, (13, a0)), (2, (12, a2)), (3, (0, a3)), (4, (0, l4))] [] h) {r : (hH × Int) ⊕ (hH)} (hr : fX3_add_s30 h0 a0 a2 a3 (h, l4) = some r) (hk : K r) : Wq p l e R s m args below meth c D G A H0 true n0 M_X3_add x 0 0 30 [(0, (13, a0)), (2, (12, a2)), (3, (0, a3)), (4, (0, l4))] [] h := by
  unfold fX3_add_s30 at hr
  refine r_iload dX3_add_30 3 rfl (Or.inl rfl) ?_
  refine r_iconst dX3_add_32 (by decide) ?_
  refine r_icmp_ge dX3_add_33 (tgt := 61) (by decide) (fun hc => ?_) (fun hc => ?_)
  · have hr := ifn hr hc
    refine r_aload_n dX3_add_61 rfl 0 rfl (nl rfl) ?_
    refine r_dup dX3_add_62 (Nat.ne_of_beq_eq_false rfl) ?_
    refine r_get 3 0 (o := a0) (w := (0, h a0 0)) (T := TX3) (ref := "FollowingRefs$Rows") rfl (by decide) rfl (by decide) inlX3 (wsl_22 _ (List.mem_of_getElem? (i := 23) rfl)) rfl dX3_add_63 rfl ?_
    refine r_iconst dX3_add_66 (by decide) ?_
    refine r_iadd dX3_add_67 ?_
    obtain ⟨h68, hg68, hr⟩ := bnd hr
    refine r_put' 3 0 (t := 0) (ref := "FollowingRefs$Rows") hg68 rfl tyX3 tyX3_ok nmX3 rfl (by decide) rfl (by decide) inlX3 (wsl_22 _ (List.mem_of_getElem? (i := 23) rfl)) rfl rfl (by decide +kernel) (by decide) rfl (Or.inl ⟨rfl, rfl⟩) dX3_add_68 ?_
    refine r_aload_n dX3_add_71 rfl 0 rfl (nl rfl) ?_
    refine r_dup dX3_add_72 (Nat.ne_of_beq_eq_false rfl) ?_
    refine r_get 3 1 (o := a0) (w := (0, h68 a0 1)) (T := TX3) (ref := "FollowingRefs$Rows") rfl (by decide) rfl (by decide) inlX3 (wsl_23 _ (List.mem_of_getElem? (i := 0) rfl)) rfl dX3_add_73 rfl ?_
    refine r_iconst dX3_add_76 (by decide) ?_
    refine r_iadd dX3_add_77 ?_
    obtain ⟨h78, hg78, hr⟩ := bnd hr
    refine r_put' 3 1 (t := 0) (ref := "FollowingRefs$Rows") hg78 rfl tyX3 tyX3_ok nmX3 rfl (by decide) rfl (by decide) inlX3 (wsl_23 _ (List.mem_of_getElem? (i := 0) rfl)) rfl rfl (by decide +kernel) (by decide) rfl (Or.inl ⟨rfl, rfl⟩) dX3_add_78 ?_
    obtain rfl := Option.some.inj hr
    exact r_vret dX3_add_81 rfl (k0 _ hk) ⟨rfl, rfl⟩
  · have hr := ifp hr hc
    refine r_aload_n dX3_add_36 rfl 0 rfl (nl rfl) ?_
    refine r_aload_n dX3_add_37 rfl 0 rfl (nl rfl) ?_
    refine r_get 3 0 (o := a0) (w := (0, h a0 0)) (T := TX3) (ref := "FollowingRefs$Rows") rfl (by decide) rfl (by decide) inlX3 (wsl_22 _ (List.mem_of_getElem? (i := 23) rfl)) rfl dX3_add_38 rfl ?_
    refine r_iload dX3_add_41 3 rfl (Or.inl rfl) ?_
    refine r_aload_n dX3_add_43 rfl 1 rfl (nl rfl) ?_
    refine r_iload_n dX3_add_44 rfl 2 rfl (Or.inl rfl) ?_
    refine r_iconst dX3_add_45 (by decide) ?_
    refine r_iload dX3_add_46 3 rfl (Or.inl rfl) ?_
    refine r_iadd dX3_add_48 ?_
    obtain ⟨r49, hg49, hr⟩ := bnd hr
    refine k_V (ci := 2) (o := a2) (T := TX2) (as := [(0, a3), (0, w32 (3 + l4))]) (rest := [(0, l4), (0, h a0 0), (13, a0)]) (X := (some (0, r49), h)) (oX2_part hg49) gX2_part rfl (by decide) rfl (wsl_33 _ (List.mem_of_getElem? (i := 11) rfl)) rfl dX3_add_49 rfl ?_
    obtain ⟨h52, hg52, hr⟩ := bnd hr
    refine k_V (ci := 3) (o := a0) (T := TX3) (as := [(0, h a0 0), (0, l4), (0, r49)]) (rest := []) (X := (none, h52)) (oX3_setValue hg52) gX3_setValue rfl (by decide) rfl (wsl_33 _ (List.mem_of_getElem? (i := 12) rfl)) rfl dX3_add_52 rfl ?_
    refine r_iinc (k := 3) (v := l4) dX3_add_55 rfl (by decide) (lv' := [(4, (0, w32 (l4 + 1))), (0, (13, a0)), (2, (12, a2)), (3, (0, a3))]) rfl ?_
    refine r_goto dX3_add_58 (tgt := 30) (by decide) ?_
    refine r_sub [1, 2, 3, 0] (lv' := [(0, (13, a0)), (2, (12, a2)), (3, (0, a3)), (4, (0, w32 (l4 + 1)))]) rfl ?_
    obtain rfl := Option.some.inj hr
    exact k1 _ _ hk
set_option maxRecDepth 100000 in
set_option maxHeartbeats 4000000 in
theorem oX3_add_b0 {a0 a1 a2 a3 : Int} {K : hH → Prop} (k0 : ∀ r, K (r) → x = (none, r)) {r : hH} (hr : fX3_add h a0 a1 a2 a3 = some r) (hk : K r) : Wq p l e R s m args below meth c D G A H0 true n0 M_X3_add x 0 0 0 [(0, (13, a0)), (1, (0, a1)), (2, (12, a2)), (3, (0, a3))] [] h := by
  unfold fX3_add at hr
  refine r_aload_n dX3_add_0 rfl 0 rfl (nl rfl) ?_
  refine r_get 3 2 (o := a0) (w := (50, h a0 2)) (T := TX3) (ref := "FollowingRefs$Rows") rfl (by decide) rfl (by decide) inlX3 (wsl_4 _ (List.mem_of_getElem? (i := 11) rfl)) rfl dX3_add_1 rfl ?_
  refine r_aload_n dX3_add_4 rfl 0 rfl (nl rfl) ?_
  refine r_get 3 0 (o := a0) (w := (0, h a0 0)) (T := TX3) (ref := "FollowingRefs$Rows") rfl (by decide) rfl (by decide) inlX3 (wsl_22 _ (List.mem_of_getElem? (i := 23) rfl)) rfl dX3_add_5 rfl ?_
  refine r_aload_n dX3_add_8 rfl 0 rfl (nl rfl) ?_
  refine r_get 3 1 (o := a0) (w := (0, h a0 1)) (T := TX3) (ref := "FollowingRefs$Rows") rfl (by decide) rfl (by decide) inlX3 (wsl_23 _ (List.mem_of_getElem? (i := 0) rfl)) rfl dX3_add_9 rfl ?_
  obtain ⟨h12, hg12, hr⟩ := bnd hr
  refine k_SN (host := "FollowingRefs") (as := [(50, h a0 2), (0, h a0 0), (0, h a0 1)]) (rest := []) (X := (none, h12)) (oX11_put hg12) gX11_put rfl (List.mem_of_getElem? (i := 19) rfl) rfl dX3_add_12 rfl ?_
  refine r_aload_n dX3_add_15 rfl 0 rfl (nl rfl) ?_
  refine r_get 3 3 (o := a0) (w := (50, h12 a0 3)) (T := TX3) (ref := "FollowingRefs$Rows") rfl (by decide) rfl (by decide) inlX3 (wsl_4 _ (List.mem_of_getElem? (i := 12) rfl)) rfl dX3_add_16 rfl ?_
  refine r_aload_n dX3_add_19 rfl 0 rfl (nl rfl) ?_
  refine r_get 3 0 (o := a0) (w := (0, h12 a0 0)) (T := TX3) (ref := "FollowingRefs$Rows") rfl (by decide) rfl (by decide) inlX3 (wsl_22 _ (List.mem_of_getElem? (i := 23) rfl)) rfl dX3_add_20 rfl ?_
  refine r_iload_n dX3_add_23 rfl 1 rfl (Or.inl rfl) ?_
  obtain ⟨h24, hg24, hr⟩ := bnd hr
  refine k_SN (host := "FollowingRefs") (as := [(50, h12 a0 3), (0, h12 a0 0), (0, a1)]) (rest := []) (X := (none, h24)) (oX11_put hg24) gX11_put rfl (List.mem_of_getElem? (i := 19) rfl) rfl dX3_add_24 rfl ?_
  refine r_iconst dX3_add_27 (by decide) ?_
  refine r_istore dX3_add_28 (Or.inl rfl) (by decide) (lv' := [(4, (0, 0)), (0, (13, a0)), (1, (0, a1)), (2, (12, a2)), (3, (0, a3))]) rfl ?_
  refine r_sub [1, 3, 4, 0] (lv' := [(0, (13, a0)), (2, (12, a2)), (3, (0, a3)), (4, (0, 0))]) rfl ?_
  exact lp_ok (w := fun (q : hH × Int) => Wq p l e R s m args below meth c D G A H0 true n0 M_X3_add x 0 0 30 [(0, (13, a0)), (2, (12, a2)), (3, (0, a3)), (4, (0, q.2))] [] (q.1)) (K := K) (fun ⟨q0, q1⟩ r h1 h2 => oX3_add_s30 (K := Sum.elim (fun (q : hH × Int) => Wq p l e R s m args below meth c D G A H0 true n0 M_X3_add x 0 0 30 [(0, (13, a0)), (2, (12, a2)), (3, (0, a3)), (4, (0, q.2))] [] (q.1)) (K)) (fun r z => k0 r z) (fun _ _ z => z) h1 h2) hr hk
end M_X3_add
theorem oX3_add {l : Launch} {D : va_G} {G : gG} {h : hH} {a0 a1 a2 a3 : Int} {r : hH} (hr : fX3_add h a0 a1 a2 a3 = some r) : Ctr l D G true yX3_add M_X3_add [(13, a0), (0, a1), (12, a2), (0, a3)] h (none, r) :=
  Ctr_of (by decide) rfl (fun z => by cases z) (nl rfl) (fun {p e R s m args below meth c A H0} => by
    exact oX3_add_b0 (K := fun z9 => z9 = r) (fun r9 z => by rw [z]) hr rfl)
/-! X1_insert -/
theorem dX1_insert_0 : decode cX1_insert 0 = .ok (.aload_n 0, 1) := by decide +kernel
theorem dX1_insert_1 : decode cX1_insert 1 = .ok (.getfield 48, 3) := by decide +kernel
theorem dX1_insert_4 : decode cX1_insert 4 = .ok (.getfield 124, 3) := by decide +kernel
theorem dX1_insert_7 : decode cX1_insert 7 = .ok (.invokevirtual 127, 3) := by decide +kernel
theorem dX1_insert_10 : decode cX1_insert 10 = .ok (.ifCond .ne 5, 3) := by decide +kernel
theorem dX1_insert_13 : decode cX1_insert 13 = .ok (.iconst 0, 1) := by decide +kernel
theorem dX1_insert_14 : decode cX1_insert 14 = .ok (.ireturn, 1) := by decide +kernel
theorem dX1_insert_15 : decode cX1_insert 15 = .ok (.aload_n 0, 1) := by decide +kernel
theorem dX1_insert_16 : decode cX1_insert 16 = .ok (.getfield 12, 3) := by decide +kernel
theorem dX1_insert_19 : decode cX1_insert 19 = .ok (.aload_n 0, 1) := by decide +kernel
theorem dX1_insert_20 : decode cX1_insert 20 = .ok (.getfield 48, 3) := by decide +kernel
theorem dX1_insert_23 : decode cX1_insert 23 = .ok (.getfield 124, 3) := by decide +kernel
theorem dX1_insert_26 : decode cX1_insert 26 = .ok (.invokevirtual 130, 3) := by decide +kernel
theorem dX1_insert_29 : decode cX1_insert 29 = .ok (.aload_n 0, 1) := by decide +kernel
theorem dX1_insert_30 : decode cX1_insert 30 = .ok (.getfield 12, 3) := by decide +kernel
theorem dX1_insert_33 : decode cX1_insert 33 = .ok (.aload_n 1, 1) := by decide +kernel
theorem dX1_insert_34 : decode cX1_insert 34 = .ok (.iload_n 2, 1) := by decide +kernel
theorem dX1_insert_35 : decode cX1_insert 35 = .ok (.iconst 1, 1) := by decide +kernel
theorem dX1_insert_36 : decode cX1_insert 36 = .ok (.invokevirtual 55, 3) := by decide +kernel
theorem dX1_insert_39 : decode cX1_insert 39 = .ok (.aload_n 1, 1) := by decide +kernel
theorem dX1_insert_40 : decode cX1_insert 40 = .ok (.iload_n 2, 1) := by decide +kernel
theorem dX1_insert_41 : decode cX1_insert 41 = .ok (.invokevirtual 134, 3) := by decide +kernel
theorem dX1_insert_44 : decode cX1_insert 44 = .ok (.aload_n 0, 1) := by decide +kernel
theorem dX1_insert_45 : decode cX1_insert 45 = .ok (.iconst 1, 1) := by decide +kernel
theorem dX1_insert_46 : decode cX1_insert 46 = .ok (.putfield 114, 3) := by decide +kernel
theorem dX1_insert_49 : decode cX1_insert 49 = .ok (.iconst 1, 1) := by decide +kernel
theorem dX1_insert_50 : decode cX1_insert 50 = .ok (.ireturn, 1) := by decide +kernel
abbrev M_X1_insert : mM := (cX1_insert, 3, RX1, some .boolean, false, 3, 126, 0, 0)
theorem gX1_insert : cI yX1_insert M_X1_insert 2 := ⟨(wsl_32 _ (List.mem_of_getElem? (i := 19) rfl)), (wsl_32 _ (List.mem_of_getElem? (i := 20) rfl)), (wsl_2 _ (List.mem_of_getElem? (i := 19) rfl)), (wsl_32 _ (List.mem_of_getElem? (i := 21) rfl)), by decide +kernel⟩
noncomputable def fX1_insert (h : hH) (a0 a1 a2 : Int) : Option (Int × hH) :=
  (fX3_hasRoom h (h (h a0 1) 0)).bind fun r7 =>
  if r7 = 0 then
    some (0, h)
  else
    (fX3_copyFrom h (h a0 2) (h (h a0 1) 0)).bind fun h26 =>
    (fX2_part h26 a1 a2 1).bind fun r36 =>
    (fX3_add h26 (h26 a0 2) r36 a1 a2).bind fun h41 =>
    (pput h41 a0 9 1).bind fun h46 =>
    some (1, h46)
section M_X1_insert
variable {p : Program} {l : Launch} {e : Env} {R : Room} {s : State} {m : MethodId} {args : Array Value} {below : List Frame} {meth : Method} {c : Code} {D : va_G} {G : gG} {A : Nat → Prop} {H0 : Heap} {n0 : Int} {x : Option vV × hH} {h : hH}
set_option maxRecDepth 100000 in
set_option maxHeartbeats 4000000 in
theorem oX1_insert_b0 {a0 a1 a2 : Int} {K : Int × hH → Prop} (k0 : ∀ r, K (r) → x = (some (2, r.1), r.2)) {r : Int × hH} (hr : fX1_insert h a0 a1 a2 = some r) (hk : K r) : Wq p l e R s m args below meth c D G A H0 true n0 M_X1_insert x 0 0 0 [(0, (11, a0)), (1, (12, a1)), (2, (0, a2))] [] h := by
  unfold fX1_insert at hr
  refine r_aload_n dX1_insert_0 rfl 0 rfl (nl rfl) ?_
  refine r_get 1 1 (o := a0) (w := (18, h a0 1)) (T := TX1) (ref := "FollowingRefs$Judge") rfl (by decide) rfl (by decide) inlX1 (wsl_6 _ (List.mem_of_getElem? (i := 9) rfl)) rfl dX1_insert_1 rfl ?_
  refine r_get 8 0 (o := h a0 1) (w := (13, h (h a0 1) 0)) (T := TX8) (ref := "FollowingRefs$State") rfl (by decide) rfl (by decide) inlX8 (wsl_32 _ (List.mem_of_getElem? (i := 22) rfl)) rfl dX1_insert_4 rfl ?_
  obtain ⟨r7, hg7, hr⟩ := bnd hr
  refine k_V (ci := 3) (o := h (h a0 1) 0) (T := TX3) (as := []) (rest := []) (X := (some (2, r7), h)) (oX3_hasRoom hg7) gX3_hasRoom rfl (by decide) rfl (wsl_32 _ (List.mem_of_getElem? (i := 23) rfl)) rfl dX1_insert_7 rfl ?_
  refine r_scast 0 (v := (2, r7)) (w := (0, r7)) rfl zc hTz (st' := [(0, r7)]) rfl ?_
  refine r_if_ne dX1_insert_10 (tgt := 15) (by decide) (fun hc => ?_) (fun hc => ?_)
  · have hr := ifn hr hc
    refine r_aload_n dX1_insert_15 rfl 0 rfl (nl rfl) ?_
    refine r_get 1 2 (o := a0) (w := (13, h a0 2)) (T := TX1) (ref := "FollowingRefs$Judge") rfl (by decide) rfl (by decide) inlX1 (wsl_5 _ (List.mem_of_getElem? (i := 21) rfl)) rfl dX1_insert_16 rfl ?_
    refine r_aload_n dX1_insert_19 rfl 0 rfl (nl rfl) ?_
    refine r_get 1 1 (o := a0) (w := (18, h a0 1)) (T := TX1) (ref := "FollowingRefs$Judge") rfl (by decide) rfl (by decide) inlX1 (wsl_6 _ (List.mem_of_getElem? (i := 9) rfl)) rfl dX1_insert_20 rfl ?_
    refine r_get 8 0 (o := h a0 1) (w := (13, h (h a0 1) 0)) (T := TX8) (ref := "FollowingRefs$State") rfl (by decide) rfl (by decide) inlX8 (wsl_32 _ (List.mem_of_getElem? (i := 22) rfl)) rfl dX1_insert_23 rfl ?_
    obtain ⟨h26, hg26, hr⟩ := bnd hr
    refine k_V (ci := 3) (o := h a0 2) (T := TX3) (as := [(13, h (h a0 1) 0)]) (rest := []) (X := (none, h26)) (oX3_copyFrom hg26) gX3_copyFrom rfl (by decide) rfl (wsl_33 _ (List.mem_of_getElem? (i := 3) rfl)) rfl dX1_insert_26 rfl ?_
    refine r_aload_n dX1_insert_29 rfl 0 rfl (nl rfl) ?_
    refine r_get 1 2 (o := a0) (w := (13, h26 a0 2)) (T := TX1) (ref := "FollowingRefs$Judge") rfl (by decide) rfl (by decide) inlX1 (wsl_5 _ (List.mem_of_getElem? (i := 21) rfl)) rfl dX1_insert_30 rfl ?_
    refine r_aload_n dX1_insert_33 rfl 1 rfl (nl rfl) ?_
    refine r_iload_n dX1_insert_34 rfl 2 rfl (Or.inl rfl) ?_
    refine r_iconst dX1_insert_35 (by decide) ?_
    obtain ⟨r36, hg36, hr⟩ := bnd hr
    refine k_V (ci := 2) (o := a1) (T := TX2) (as := [(0, a2), (0, 1)]) (rest := [(13, h26 a0 2)]) (X := (some (0, r36), h26)) (oX2_part hg36) gX2_part rfl (by decide) rfl (wsl_32 _ (List.mem_of_getElem? (i := 17) rfl)) rfl dX1_insert_36 rfl ?_
    refine r_aload_n dX1_insert_39 rfl 1 rfl (nl rfl) ?_
    refine r_iload_n dX1_insert_40 rfl 2 rfl (Or.inl rfl) ?_
    obtain ⟨h41, hg41, hr⟩ := bnd hr
    refine k_V (ci := 3) (o := h26 a0 2) (T := TX3) (as := [(0, r36), (12, a1), (0, a2)]) (rest := []) (X := (none, h41)) (oX3_add hg41) gX3_add rfl (by decide) rfl (wsl_33 _ (List.mem_of_getElem? (i := 7) rfl)) rfl dX1_insert_41 rfl ?_
    refine r_aload_n dX1_insert_44 rfl 0 rfl (nl rfl) ?_
    refine r_iconst dX1_insert_45 (by decide) ?_
    obtain ⟨h46, hg46, hr⟩ := bnd hr
    refine r_put' 1 9 (t := 0) (ref := "FollowingRefs$Judge") hg46 rfl tyX1 tyX1_ok nmX1 rfl (by decide) rfl (by decide) inlX1 (wsl_32 _ (List.mem_of_getElem? (i := 10) rfl)) rfl rfl (by decide +kernel) (by decide) rfl (Or.inl ⟨rfl, rfl⟩) dX1_insert_46 ?_
    refine r_iconst dX1_insert_49 (by decide) ?_
    refine r_scast 0 (v := (0, 1)) (w := (2, 1)) rfl cz (fun _ => Or.inr rfl) (st' := [(2, 1)]) rfl ?_
    obtain rfl := Option.some.inj hr
    exact r_ret dX1_insert_50 rfl (Or.inr ⟨rfl, rfl⟩) (k0 _ hk) ⟨rfl, rfl⟩
  · have hr := ifp hr hc
    refine r_iconst dX1_insert_13 (by decide) ?_
    refine r_scast 0 (v := (0, 0)) (w := (2, 0)) rfl cz (fun _ => Or.inl rfl) (st' := [(2, 0)]) rfl ?_
    obtain rfl := Option.some.inj hr
    exact r_ret dX1_insert_14 rfl (Or.inr ⟨rfl, rfl⟩) (k0 _ hk) ⟨rfl, rfl⟩
end M_X1_insert
theorem oX1_insert {l : Launch} {D : va_G} {G : gG} {h : hH} {a0 a1 a2 : Int} {r : Int × hH} (hr : fX1_insert h a0 a1 a2 = some r) : Ctr l D G true yX1_insert M_X1_insert [(11, a0), (12, a1), (0, a2)] h (some (2, r.1), r.2) :=
  Ctr_of (by decide) rfl (fun z => by cases z) (nl rfl) (fun {p e R s m args below meth c A H0} => by
    exact oX1_insert_b0 (K := fun z9 => z9 = r) (fun r9 z => by rw [z]) hr rfl)
/-! X3_tableAt -/
theorem dX3_tableAt_0 : decode cX3_tableAt 0 = .ok (.iload_n 1, 1) := by decide +kernel
theorem dX3_tableAt_1 : decode cX3_tableAt 1 = .ok (.ifCond .lt 29, 3) := by decide +kernel
theorem dX3_tableAt_4 : decode cX3_tableAt 4 = .ok (.iload_n 1, 1) := by decide +kernel
theorem dX3_tableAt_5 : decode cX3_tableAt 5 = .ok (.aload_n 0, 1) := by decide +kernel
theorem dX3_tableAt_6 : decode cX3_tableAt 6 = .ok (.getfield 21, 3) := by decide +kernel
theorem dX3_tableAt_9 : decode cX3_tableAt 9 = .ok (.if_icmp .ge 21, 3) := by decide +kernel
theorem dX3_tableAt_12 : decode cX3_tableAt 12 = .ok (.iload_n 1, 1) := by decide +kernel
theorem dX3_tableAt_13 : decode cX3_tableAt 13 = .ok (.aload_n 0, 1) := by decide +kernel
theorem dX3_tableAt_14 : decode cX3_tableAt 14 = .ok (.getfield 15, 3) := by decide +kernel
theorem dX3_tableAt_17 : decode cX3_tableAt 17 = .ok (.arraylength, 1) := by decide +kernel
theorem dX3_tableAt_18 : decode cX3_tableAt 18 = .ok (.if_icmp .ge 12, 3) := by decide +kernel
theorem dX3_tableAt_21 : decode cX3_tableAt 21 = .ok (.aload_n 0, 1) := by decide +kernel
theorem dX3_tableAt_22 : decode cX3_tableAt 22 = .ok (.getfield 15, 3) := by decide +kernel
theorem dX3_tableAt_25 : decode cX3_tableAt 25 = .ok (.iload_n 1, 1) := by decide +kernel
theorem dX3_tableAt_26 : decode cX3_tableAt 26 = .ok (.iaload, 1) := by decide +kernel
theorem dX3_tableAt_27 : decode cX3_tableAt 27 = .ok (.goto 4, 3) := by decide +kernel
theorem dX3_tableAt_30 : decode cX3_tableAt 30 = .ok (.iconst (-1), 1) := by decide +kernel
theorem dX3_tableAt_31 : decode cX3_tableAt 31 = .ok (.ireturn, 1) := by decide +kernel
abbrev M_X3_tableAt : mM := (cX3_tableAt, 2, RX3, some .int, false, 0, 0, 0, 0)
theorem gX3_tableAt : cI yX3_tableAt M_X3_tableAt 1 := ⟨(wsl_34 _ (List.mem_of_getElem? (i := 3) rfl)), (wsl_34 _ (List.mem_of_getElem? (i := 4) rfl)), (wsl_4 _ (List.mem_of_getElem? (i := 5) rfl)), (wsl_34 _ (List.mem_of_getElem? (i := 5) rfl)), by decide +kernel⟩
noncomputable def fX3_tableAt (h : hH) (a0 a1 : Int) : Option (Int) :=
  if a1 < 0 then
    some (-1)
  else
    if a1 < h a0 0 then
      if a1 < h (h a0 3) (-1) then
        (aget h (h a0 3) a1).bind fun v26 =>
        some v26
      else
        some (-1)
    else
      some (-1)
section M_X3_tableAt
variable {p : Program} {l : Launch} {e : Env} {R : Room} {s : State} {m : MethodId} {args : Array Value} {below : List Frame} {meth : Method} {c : Code} {D : va_G} {G : gG} {A : Nat → Prop} {H0 : Heap} {n0 : Int} {x : Option vV × hH} {h : hH}
set_option maxRecDepth 100000 in
set_option maxHeartbeats 4000000 in
theorem oX3_tableAt_b0 {a0 a1 : Int} {K : Int → Prop} (k0 : ∀ r, K (r) → x = (some (0, r), h)) {r : Int} (hr : fX3_tableAt h a0 a1 = some r) (hk : K r) : Wq p l e R s m args below meth c D G A H0 true n0 M_X3_tableAt x 0 0 0 [(0, (13, a0)), (1, (0, a1))] [] h := by
  unfold fX3_tableAt at hr
  refine r_iload_n dX3_tableAt_0 rfl 1 rfl (Or.inl rfl) ?_
  refine r_if_lt dX3_tableAt_1 (tgt := 30) (by decide) (fun hc => ?_) (fun hc => ?_)
  · have hr := ifp hr hc
    refine r_iconst dX3_tableAt_30 (by decide) ?_
    obtain rfl := Option.some.inj hr
    exact r_ret dX3_tableAt_31 rfl (Or.inl ⟨rfl, rfl⟩) (k0 _ hk) ⟨rfl, rfl⟩
  · have hr := ifn hr hc
    refine r_iload_n dX3_tableAt_4 rfl 1 rfl (Or.inl rfl) ?_
    refine r_aload_n dX3_tableAt_5 rfl 0 rfl (nl rfl) ?_
    refine r_get 3 0 (o := a0) (w := (0, h a0 0)) (T := TX3) (ref := "FollowingRefs$Rows") rfl (by decide) rfl (by decide) inlX3 (wsl_22 _ (List.mem_of_getElem? (i := 23) rfl)) rfl dX3_tableAt_6 rfl ?_
    refine r_icmp_ge dX3_tableAt_9 (tgt := 30) (by decide) (fun hc => ?_) (fun hc => ?_)
    · have hr := ifn hr hc
      refine r_iconst dX3_tableAt_30 (by decide) ?_
      obtain rfl := Option.some.inj hr
      exact r_ret dX3_tableAt_31 rfl (Or.inl ⟨rfl, rfl⟩) (k0 _ hk) ⟨rfl, rfl⟩
    · have hr := ifp hr hc
      refine r_iload_n dX3_tableAt_12 rfl 1 rfl (Or.inl rfl) ?_
      refine r_aload_n dX3_tableAt_13 rfl 0 rfl (nl rfl) ?_
      refine r_get 3 3 (o := a0) (w := (50, h a0 3)) (T := TX3) (ref := "FollowingRefs$Rows") rfl (by decide) rfl (by decide) inlX3 (wsl_4 _ (List.mem_of_getElem? (i := 12) rfl)) rfl dX3_tableAt_14 rfl ?_
      refine r_alen (t := 50) (by decide) (by decide) dX3_tableAt_17 ?_
      refine r_icmp_ge dX3_tableAt_18 (tgt := 30) (by decide) (fun hc => ?_) (fun hc => ?_)
      · have hr := ifn hr hc
        refine r_iconst dX3_tableAt_30 (by decide) ?_
        obtain rfl := Option.some.inj hr
        exact r_ret dX3_tableAt_31 rfl (Or.inl ⟨rfl, rfl⟩) (k0 _ hk) ⟨rfl, rfl⟩
      · have hr := ifp hr hc
        refine r_aload_n dX3_tableAt_21 rfl 0 rfl (nl rfl) ?_
        refine r_get 3 3 (o := a0) (w := (50, h a0 3)) (T := TX3) (ref := "FollowingRefs$Rows") rfl (by decide) rfl (by decide) inlX3 (wsl_4 _ (List.mem_of_getElem? (i := 12) rfl)) rfl dX3_tableAt_22 rfl ?_
        refine r_iload_n dX3_tableAt_25 rfl 1 rfl (Or.inl rfl) ?_
        obtain ⟨v26, hg26, hr⟩ := bnd hr
        refine r_iald dX3_tableAt_26 hg26 ?_
        refine r_goto dX3_tableAt_27 (tgt := 31) (by decide) ?_
        obtain rfl := Option.some.inj hr
        exact r_ret dX3_tableAt_31 rfl (Or.inl ⟨rfl, rfl⟩) (k0 _ hk) ⟨rfl, rfl⟩
end M_X3_tableAt
theorem oX3_tableAt {l : Launch} {D : va_G} {G : gG} {h : hH} {a0 a1 : Int} {r : Int} (hr : fX3_tableAt h a0 a1 = some r) : Ctr l D G true yX3_tableAt M_X3_tableAt [(13, a0), (0, a1)] h (some (0, r), h) :=
  Ctr_of (by decide) rfl (fun z => by cases z) (nl rfl) (fun {p e R s m args below meth c A H0} => by
    exact oX3_tableAt_b0 (K := fun z9 => z9 = r) (fun r9 z => by rw [z]) hr rfl)
/-! X4_refPart -/
theorem dX4_refPart_0 : decode cX4_refPart 0 = .ok (.aload_n 0, 1) := by decide +kernel
theorem dX4_refPart_1 : decode cX4_refPart 1 = .ok (.getfield 31, 3) := by decide +kernel
theorem dX4_refPart_4 : decode cX4_refPart 4 = .ok (.iload_n 1, 1) := by decide +kernel
theorem dX4_refPart_5 : decode cX4_refPart 5 = .ok (.bipush 9, 2) := by decide +kernel
theorem dX4_refPart_7 : decode cX4_refPart 7 = .ok (.imul, 1) := by decide +kernel
theorem dX4_refPart_8 : decode cX4_refPart 8 = .ok (.iload_n 2, 1) := by decide +kernel
theorem dX4_refPart_9 : decode cX4_refPart 9 = .ok (.iadd, 1) := by decide +kernel
theorem dX4_refPart_10 : decode cX4_refPart 10 = .ok (.invokestatic 80, 3) := by decide +kernel
theorem dX4_refPart_13 : decode cX4_refPart 13 = .ok (.ireturn, 1) := by decide +kernel
abbrev M_X4_refPart : mM := (cX4_refPart, 3, RX4, some .int, false, 1, 21, 0, 0)
theorem gX4_refPart : cI yX4_refPart M_X4_refPart 2 := ⟨(wsl_34 _ (List.mem_of_getElem? (i := 7) rfl)), (wsl_34 _ (List.mem_of_getElem? (i := 8) rfl)), (wsl_1 _ (List.mem_of_getElem? (i := 19) rfl)), (wsl_34 _ (List.mem_of_getElem? (i := 9) rfl)), by decide +kernel⟩
noncomputable def fX4_refPart (h : hH) (a0 a1 a2 : Int) : Option (Int) :=
  (fX11_at h (h a0 10) (w32 ((w32 (a1 * 9)) + a2))).bind fun r10 =>
  some r10
section M_X4_refPart
variable {p : Program} {l : Launch} {e : Env} {R : Room} {s : State} {m : MethodId} {args : Array Value} {below : List Frame} {meth : Method} {c : Code} {D : va_G} {G : gG} {A : Nat → Prop} {H0 : Heap} {n0 : Int} {x : Option vV × hH} {h : hH}
set_option maxRecDepth 100000 in
set_option maxHeartbeats 4000000 in
theorem oX4_refPart_b0 {a0 a1 a2 : Int} {K : Int → Prop} (k0 : ∀ r, K (r) → x = (some (0, r), h)) {r : Int} (hr : fX4_refPart h a0 a1 a2 = some r) (hk : K r) : Wq p l e R s m args below meth c D G A H0 true n0 M_X4_refPart x 0 0 0 [(0, (14, a0)), (1, (0, a1)), (2, (0, a2))] [] h := by
  unfold fX4_refPart at hr
  refine r_aload_n dX4_refPart_0 rfl 0 rfl (nl rfl) ?_
  refine r_get 4 10 (o := a0) (w := (50, h a0 10)) (T := TX4) (ref := "FollowingRefs$Schema") rfl (by decide) rfl (by decide) inlX4 (wsl_3 _ (List.mem_of_getElem? (i := 22) rfl)) rfl dX4_refPart_1 rfl ?_
  refine r_iload_n dX4_refPart_4 rfl 1 rfl (Or.inl rfl) ?_
  refine r_bipush dX4_refPart_5 (by decide) (by decide) ?_
  refine r_imul dX4_refPart_7 ?_
  refine r_iload_n dX4_refPart_8 rfl 2 rfl (Or.inl rfl) ?_
  refine r_iadd dX4_refPart_9 ?_
  obtain ⟨r10, hg10, hr⟩ := bnd hr
  refine k_SN (host := "FollowingRefs") (as := [(50, h a0 10), (0, w32 ((w32 (a1 * 9)) + a2))]) (rest := []) (X := (some (0, r10), h)) (oX11_at hg10) gX11_at rfl (List.mem_of_getElem? (i := 24) rfl) rfl dX4_refPart_10 rfl ?_
  obtain rfl := Option.some.inj hr
  exact r_ret dX4_refPart_13 rfl (Or.inl ⟨rfl, rfl⟩) (k0 _ hk) ⟨rfl, rfl⟩
end M_X4_refPart
theorem oX4_refPart {l : Launch} {D : va_G} {G : gG} {h : hH} {a0 a1 a2 : Int} {r : Int} (hr : fX4_refPart h a0 a1 a2 = some r) : Ctr l D G true yX4_refPart M_X4_refPart [(14, a0), (0, a1), (0, a2)] h (some (0, r), h) :=
  Ctr_of (by decide) rfl (fun z => by cases z) (nl rfl) (fun {p e R s m args below meth c A H0} => by
    exact oX4_refPart_b0 (K := fun z9 => z9 = r) (fun r9 z => by rw [z]) hr rfl)
/-! X3_value -/
theorem dX3_value_0 : decode cX3_value 0 = .ok (.iload_n 1, 1) := by decide +kernel
theorem dX3_value_1 : decode cX3_value 1 = .ok (.iconst 4, 1) := by decide +kernel
theorem dX3_value_2 : decode cX3_value 2 = .ok (.imul, 1) := by decide +kernel
theorem dX3_value_3 : decode cX3_value 3 = .ok (.iload_n 2, 1) := by decide +kernel
theorem dX3_value_4 : decode cX3_value 4 = .ok (.iadd, 1) := by decide +kernel
theorem dX3_value_5 : decode cX3_value 5 = .ok (.istore_n 3, 1) := by decide +kernel
theorem dX3_value_6 : decode cX3_value 6 = .ok (.iload_n 3, 1) := by decide +kernel
theorem dX3_value_7 : decode cX3_value 7 = .ok (.ifCond .lt 21, 3) := by decide +kernel
theorem dX3_value_10 : decode cX3_value 10 = .ok (.iload_n 3, 1) := by decide +kernel
theorem dX3_value_11 : decode cX3_value 11 = .ok (.aload_n 0, 1) := by decide +kernel
theorem dX3_value_12 : decode cX3_value 12 = .ok (.getfield 18, 3) := by decide +kernel
theorem dX3_value_15 : decode cX3_value 15 = .ok (.arraylength, 1) := by decide +kernel
theorem dX3_value_16 : decode cX3_value 16 = .ok (.if_icmp .ge 12, 3) := by decide +kernel
theorem dX3_value_19 : decode cX3_value 19 = .ok (.aload_n 0, 1) := by decide +kernel
theorem dX3_value_20 : decode cX3_value 20 = .ok (.getfield 18, 3) := by decide +kernel
theorem dX3_value_23 : decode cX3_value 23 = .ok (.iload_n 3, 1) := by decide +kernel
theorem dX3_value_24 : decode cX3_value 24 = .ok (.iaload, 1) := by decide +kernel
theorem dX3_value_25 : decode cX3_value 25 = .ok (.goto 4, 3) := by decide +kernel
theorem dX3_value_28 : decode cX3_value 28 = .ok (.iconst (-1), 1) := by decide +kernel
theorem dX3_value_29 : decode cX3_value 29 = .ok (.ireturn, 1) := by decide +kernel
abbrev M_X3_value : mM := (cX3_value, 4, RX3, some .int, false, 0, 0, 0, 0)
theorem gX3_value : cI yX3_value M_X3_value 2 := ⟨(wsl_34 _ (List.mem_of_getElem? (i := 11) rfl)), (wsl_34 _ (List.mem_of_getElem? (i := 12) rfl)), (wsl_4 _ (List.mem_of_getElem? (i := 5) rfl)), (wsl_34 _ (List.mem_of_getElem? (i := 13) rfl)), by decide +kernel⟩
noncomputable def fX3_value (h : hH) (a0 a1 a2 : Int) : Option (Int) :=
  if w32 ((w32 (a1 * 4)) + a2) < 0 then
    some (-1)
  else
    if w32 ((w32 (a1 * 4)) + a2) < h (h a0 4) (-1) then
      (aget h (h a0 4) (w32 ((w32 (a1 * 4)) + a2))).bind fun v24 =>
      some v24
    else
      some (-1)
section M_X3_value
variable {p : Program} {l : Launch} {e : Env} {R : Room} {s : State} {m : MethodId} {args : Array Value} {below : List Frame} {meth : Method} {c : Code} {D : va_G} {G : gG} {A : Nat → Prop} {H0 : Heap} {n0 : Int} {x : Option vV × hH} {h : hH}
set_option maxRecDepth 100000 in
set_option maxHeartbeats 4000000 in
theorem oX3_value_b0 {a0 a1 a2 : Int} {K : Int → Prop} (k0 : ∀ r, K (r) → x = (some (0, r), h)) {r : Int} (hr : fX3_value h a0 a1 a2 = some r) (hk : K r) : Wq p l e R s m args below meth c D G A H0 true n0 M_X3_value x 0 0 0 [(0, (13, a0)), (1, (0, a1)), (2, (0, a2))] [] h := by
  unfold fX3_value at hr
  refine r_iload_n dX3_value_0 rfl 1 rfl (Or.inl rfl) ?_
  refine r_iconst dX3_value_1 (by decide) ?_
  refine r_imul dX3_value_2 ?_
  refine r_iload_n dX3_value_3 rfl 2 rfl (Or.inl rfl) ?_
  refine r_iadd dX3_value_4 ?_
  refine r_istore_n dX3_value_5 rfl (Or.inl rfl) (by decide) (lv' := [(3, (0, w32 ((w32 (a1 * 4)) + a2))), (0, (13, a0)), (1, (0, a1)), (2, (0, a2))]) rfl ?_
  refine r_iload_n dX3_value_6 rfl 0 rfl (Or.inl rfl) ?_
  refine r_if_lt dX3_value_7 (tgt := 28) (by decide) (fun hc => ?_) (fun hc => ?_)
  · have hr := ifp hr hc
    refine r_iconst dX3_value_28 (by decide) ?_
    obtain rfl := Option.some.inj hr
    exact r_ret dX3_value_29 rfl (Or.inl ⟨rfl, rfl⟩) (k0 _ hk) ⟨rfl, rfl⟩
  · have hr := ifn hr hc
    refine r_iload_n dX3_value_10 rfl 0 rfl (Or.inl rfl) ?_
    refine r_aload_n dX3_value_11 rfl 1 rfl (nl rfl) ?_
    refine r_get 3 4 (o := a0) (w := (50, h a0 4)) (T := TX3) (ref := "FollowingRefs$Rows") rfl (by decide) rfl (by decide) inlX3 (wsl_4 _ (List.mem_of_getElem? (i := 13) rfl)) rfl dX3_value_12 rfl ?_
    refine r_alen (t := 50) (by decide) (by decide) dX3_value_15 ?_
    refine r_icmp_ge dX3_value_16 (tgt := 28) (by decide) (fun hc => ?_) (fun hc => ?_)
    · have hr := ifn hr hc
      refine r_iconst dX3_value_28 (by decide) ?_
      obtain rfl := Option.some.inj hr
      exact r_ret dX3_value_29 rfl (Or.inl ⟨rfl, rfl⟩) (k0 _ hk) ⟨rfl, rfl⟩
    · have hr := ifp hr hc
      refine r_aload_n dX3_value_19 rfl 1 rfl (nl rfl) ?_
      refine r_get 3 4 (o := a0) (w := (50, h a0 4)) (T := TX3) (ref := "FollowingRefs$Rows") rfl (by decide) rfl (by decide) inlX3 (wsl_4 _ (List.mem_of_getElem? (i := 13) rfl)) rfl dX3_value_20 rfl ?_
      refine r_iload_n dX3_value_23 rfl 0 rfl (Or.inl rfl) ?_
      obtain ⟨v24, hg24, hr⟩ := bnd hr
      refine r_iald dX3_value_24 hg24 ?_
      refine r_goto dX3_value_25 (tgt := 29) (by decide) ?_
      obtain rfl := Option.some.inj hr
      exact r_ret dX3_value_29 rfl (Or.inl ⟨rfl, rfl⟩) (k0 _ hk) ⟨rfl, rfl⟩
end M_X3_value
theorem oX3_value {l : Launch} {D : va_G} {G : gG} {h : hH} {a0 a1 a2 : Int} {r : Int} (hr : fX3_value h a0 a1 a2 = some r) : Ctr l D G true yX3_value M_X3_value [(13, a0), (0, a1), (0, a2)] h (some (0, r), h) :=
  Ctr_of (by decide) rfl (fun z => by cases z) (nl rfl) (fun {p e R s m args below meth c A H0} => by
    exact oX3_value_b0 (K := fun z9 => z9 = r) (fun r9 z => by rw [z]) hr rfl)
/-! X4_keyPart -/
theorem dX4_keyPart_0 : decode cX4_keyPart 0 = .ok (.aload_n 0, 1) := by decide +kernel
theorem dX4_keyPart_1 : decode cX4_keyPart 1 = .ok (.getfield 28, 3) := by decide +kernel
theorem dX4_keyPart_4 : decode cX4_keyPart 4 = .ok (.iload_n 1, 1) := by decide +kernel
theorem dX4_keyPart_5 : decode cX4_keyPart 5 = .ok (.iconst 3, 1) := by decide +kernel
theorem dX4_keyPart_6 : decode cX4_keyPart 6 = .ok (.imul, 1) := by decide +kernel
theorem dX4_keyPart_7 : decode cX4_keyPart 7 = .ok (.iload_n 2, 1) := by decide +kernel
theorem dX4_keyPart_8 : decode cX4_keyPart 8 = .ok (.iadd, 1) := by decide +kernel
theorem dX4_keyPart_9 : decode cX4_keyPart 9 = .ok (.invokestatic 80, 3) := by decide +kernel
theorem dX4_keyPart_12 : decode cX4_keyPart 12 = .ok (.ireturn, 1) := by decide +kernel
abbrev M_X4_keyPart : mM := (cX4_keyPart, 3, RX4, some .int, false, 1, 21, 0, 0)
theorem gX4_keyPart : cI yX4_keyPart M_X4_keyPart 2 := ⟨(wsl_20 _ (List.mem_of_getElem? (i := 0) rfl)), (wsl_20 _ (List.mem_of_getElem? (i := 1) rfl)), (wsl_1 _ (List.mem_of_getElem? (i := 19) rfl)), (wsl_20 _ (List.mem_of_getElem? (i := 2) rfl)), by decide +kernel⟩
noncomputable def fX4_keyPart (h : hH) (a0 a1 a2 : Int) : Option (Int) :=
  (fX11_at h (h a0 9) (w32 ((w32 (a1 * 3)) + a2))).bind fun r9 =>
  some r9
section M_X4_keyPart
variable {p : Program} {l : Launch} {e : Env} {R : Room} {s : State} {m : MethodId} {args : Array Value} {below : List Frame} {meth : Method} {c : Code} {D : va_G} {G : gG} {A : Nat → Prop} {H0 : Heap} {n0 : Int} {x : Option vV × hH} {h : hH}
set_option maxRecDepth 100000 in
set_option maxHeartbeats 4000000 in
theorem oX4_keyPart_b0 {a0 a1 a2 : Int} {K : Int → Prop} (k0 : ∀ r, K (r) → x = (some (0, r), h)) {r : Int} (hr : fX4_keyPart h a0 a1 a2 = some r) (hk : K r) : Wq p l e R s m args below meth c D G A H0 true n0 M_X4_keyPart x 0 0 0 [(0, (14, a0)), (1, (0, a1)), (2, (0, a2))] [] h := by
  unfold fX4_keyPart at hr
  refine r_aload_n dX4_keyPart_0 rfl 0 rfl (nl rfl) ?_
  refine r_get 4 9 (o := a0) (w := (50, h a0 9)) (T := TX4) (ref := "FollowingRefs$Schema") rfl (by decide) rfl (by decide) inlX4 (wsl_3 _ (List.mem_of_getElem? (i := 21) rfl)) rfl dX4_keyPart_1 rfl ?_
  refine r_iload_n dX4_keyPart_4 rfl 1 rfl (Or.inl rfl) ?_
  refine r_iconst dX4_keyPart_5 (by decide) ?_
  refine r_imul dX4_keyPart_6 ?_
  refine r_iload_n dX4_keyPart_7 rfl 2 rfl (Or.inl rfl) ?_
  refine r_iadd dX4_keyPart_8 ?_
  obtain ⟨r9, hg9, hr⟩ := bnd hr
  refine k_SN (host := "FollowingRefs") (as := [(50, h a0 9), (0, w32 ((w32 (a1 * 3)) + a2))]) (rest := []) (X := (some (0, r9), h)) (oX11_at hg9) gX11_at rfl (List.mem_of_getElem? (i := 24) rfl) rfl dX4_keyPart_9 rfl ?_
  obtain rfl := Option.some.inj hr
  exact r_ret dX4_keyPart_12 rfl (Or.inl ⟨rfl, rfl⟩) (k0 _ hk) ⟨rfl, rfl⟩
end M_X4_keyPart
theorem oX4_keyPart {l : Launch} {D : va_G} {G : gG} {h : hH} {a0 a1 a2 : Int} {r : Int} (hr : fX4_keyPart h a0 a1 a2 = some r) : Ctr l D G true yX4_keyPart M_X4_keyPart [(14, a0), (0, a1), (0, a2)] h (some (0, r), h) :=
  Ctr_of (by decide) rfl (fun z => by cases z) (nl rfl) (fun {p e R s m args below meth c A H0} => by
    exact oX4_keyPart_b0 (K := fun z9 => z9 = r) (fun r9 z => by rw [z]) hr rfl)
/-! X3_aim -/
theorem dX3_aim_0 : decode cX3_aim 0 = .ok (.aload_n 0, 1) := by decide +kernel
theorem dX3_aim_1 : decode cX3_aim 1 = .ok (.iload_n 2, 1) := by decide +kernel
theorem dX3_aim_2 : decode cX3_aim 2 = .ok (.invokevirtual 53, 3) := by decide +kernel
theorem dX3_aim_5 : decode cX3_aim 5 = .ok (.aload_n 1, 1) := by decide +kernel
theorem dX3_aim_6 : decode cX3_aim 6 = .ok (.iload_n 3, 1) := by decide +kernel
theorem dX3_aim_7 : decode cX3_aim 7 = .ok (.iconst 0, 1) := by decide +kernel
theorem dX3_aim_8 : decode cX3_aim 8 = .ok (.invokevirtual 57, 3) := by decide +kernel
theorem dX3_aim_11 : decode cX3_aim 11 = .ok (.if_icmp .eq 5, 3) := by decide +kernel
theorem dX3_aim_14 : decode cX3_aim 14 = .ok (.iconst (-1), 1) := by decide +kernel
theorem dX3_aim_15 : decode cX3_aim 15 = .ok (.ireturn, 1) := by decide +kernel
theorem dX3_aim_16 : decode cX3_aim 16 = .ok (.aload_n 0, 1) := by decide +kernel
theorem dX3_aim_17 : decode cX3_aim 17 = .ok (.iload_n 2, 1) := by decide +kernel
theorem dX3_aim_18 : decode cX3_aim 18 = .ok (.aload_n 1, 1) := by decide +kernel
theorem dX3_aim_19 : decode cX3_aim 19 = .ok (.iload_n 3, 1) := by decide +kernel
theorem dX3_aim_20 : decode cX3_aim 20 = .ok (.bipush 7, 2) := by decide +kernel
theorem dX3_aim_22 : decode cX3_aim 22 = .ok (.invokevirtual 57, 3) := by decide +kernel
theorem dX3_aim_25 : decode cX3_aim 25 = .ok (.invokevirtual 50, 3) := by decide +kernel
theorem dX3_aim_28 : decode cX3_aim 28 = .ok (.istore 4, 2) := by decide +kernel
theorem dX3_aim_30 : decode cX3_aim 30 = .ok (.aload_n 1, 1) := by decide +kernel
theorem dX3_aim_31 : decode cX3_aim 31 = .ok (.iload_n 3, 1) := by decide +kernel
theorem dX3_aim_32 : decode cX3_aim 32 = .ok (.bipush 8, 2) := by decide +kernel
theorem dX3_aim_34 : decode cX3_aim 34 = .ok (.invokevirtual 57, 3) := by decide +kernel
theorem dX3_aim_37 : decode cX3_aim 37 = .ok (.istore 5, 2) := by decide +kernel
theorem dX3_aim_39 : decode cX3_aim 39 = .ok (.iload 5, 2) := by decide +kernel
theorem dX3_aim_41 : decode cX3_aim 41 = .ok (.iconst (-1), 1) := by decide +kernel
theorem dX3_aim_42 : decode cX3_aim 42 = .ok (.if_icmp .ne 7, 3) := by decide +kernel
theorem dX3_aim_45 : decode cX3_aim 45 = .ok (.iconst (-1), 1) := by decide +kernel
theorem dX3_aim_46 : decode cX3_aim 46 = .ok (.goto 10, 3) := by decide +kernel
theorem dX3_aim_49 : decode cX3_aim 49 = .ok (.aload_n 0, 1) := by decide +kernel
theorem dX3_aim_50 : decode cX3_aim 50 = .ok (.iload_n 2, 1) := by decide +kernel
theorem dX3_aim_51 : decode cX3_aim 51 = .ok (.iload 5, 2) := by decide +kernel
theorem dX3_aim_53 : decode cX3_aim 53 = .ok (.invokevirtual 50, 3) := by decide +kernel
theorem dX3_aim_56 : decode cX3_aim 56 = .ok (.istore 6, 2) := by decide +kernel
theorem dX3_aim_58 : decode cX3_aim 58 = .ok (.iload 4, 2) := by decide +kernel
theorem dX3_aim_60 : decode cX3_aim 60 = .ok (.iconst (-1), 1) := by decide +kernel
theorem dX3_aim_61 : decode cX3_aim 61 = .ok (.if_icmp .eq 15, 3) := by decide +kernel
theorem dX3_aim_64 : decode cX3_aim 64 = .ok (.iload 5, 2) := by decide +kernel
theorem dX3_aim_66 : decode cX3_aim 66 = .ok (.iconst (-1), 1) := by decide +kernel
theorem dX3_aim_67 : decode cX3_aim 67 = .ok (.if_icmp .eq 11, 3) := by decide +kernel
theorem dX3_aim_70 : decode cX3_aim 70 = .ok (.iload 6, 2) := by decide +kernel
theorem dX3_aim_72 : decode cX3_aim 72 = .ok (.iconst (-1), 1) := by decide +kernel
theorem dX3_aim_73 : decode cX3_aim 73 = .ok (.if_icmp .ne 5, 3) := by decide +kernel
theorem dX3_aim_76 : decode cX3_aim 76 = .ok (.iconst (-1), 1) := by decide +kernel
theorem dX3_aim_77 : decode cX3_aim 77 = .ok (.ireturn, 1) := by decide +kernel
theorem dX3_aim_78 : decode cX3_aim 78 = .ok (.aload_n 1, 1) := by decide +kernel
theorem dX3_aim_79 : decode cX3_aim 79 = .ok (.iload_n 3, 1) := by decide +kernel
theorem dX3_aim_80 : decode cX3_aim 80 = .ok (.iconst 1, 1) := by decide +kernel
theorem dX3_aim_81 : decode cX3_aim 81 = .ok (.invokevirtual 57, 3) := by decide +kernel
theorem dX3_aim_84 : decode cX3_aim 84 = .ok (.istore 7, 2) := by decide +kernel
theorem dX3_aim_86 : decode cX3_aim 86 = .ok (.aload_n 1, 1) := by decide +kernel
theorem dX3_aim_87 : decode cX3_aim 87 = .ok (.iload_n 3, 1) := by decide +kernel
theorem dX3_aim_88 : decode cX3_aim 88 = .ok (.iconst 2, 1) := by decide +kernel
theorem dX3_aim_89 : decode cX3_aim 89 = .ok (.invokevirtual 57, 3) := by decide +kernel
theorem dX3_aim_92 : decode cX3_aim 92 = .ok (.istore 8, 2) := by decide +kernel
theorem dX3_aim_94 : decode cX3_aim 94 = .ok (.aload_n 1, 1) := by decide +kernel
theorem dX3_aim_95 : decode cX3_aim 95 = .ok (.iload 8, 2) := by decide +kernel
theorem dX3_aim_97 : decode cX3_aim 97 = .ok (.iconst 1, 1) := by decide +kernel
theorem dX3_aim_98 : decode cX3_aim 98 = .ok (.invokevirtual 62, 3) := by decide +kernel
theorem dX3_aim_101 : decode cX3_aim 101 = .ok (.istore 9, 2) := by decide +kernel
theorem dX3_aim_103 : decode cX3_aim 103 = .ok (.aload_n 1, 1) := by decide +kernel
theorem dX3_aim_104 : decode cX3_aim 104 = .ok (.iload 8, 2) := by decide +kernel
theorem dX3_aim_106 : decode cX3_aim 106 = .ok (.iconst 2, 1) := by decide +kernel
theorem dX3_aim_107 : decode cX3_aim 107 = .ok (.invokevirtual 62, 3) := by decide +kernel
theorem dX3_aim_110 : decode cX3_aim 110 = .ok (.istore 10, 2) := by decide +kernel
theorem dX3_aim_112 : decode cX3_aim 112 = .ok (.iconst 0, 1) := by decide +kernel
theorem dX3_aim_113 : decode cX3_aim 113 = .ok (.istore 11, 2) := by decide +kernel
theorem dX3_aim_115 : decode cX3_aim 115 = .ok (.iload 11, 2) := by decide +kernel
theorem dX3_aim_117 : decode cX3_aim 117 = .ok (.aload_n 0, 1) := by decide +kernel
theorem dX3_aim_118 : decode cX3_aim 118 = .ok (.getfield 21, 3) := by decide +kernel
theorem dX3_aim_121 : decode cX3_aim 121 = .ok (.if_icmp .ge 58, 3) := by decide +kernel
theorem dX3_aim_124 : decode cX3_aim 124 = .ok (.aload_n 0, 1) := by decide +kernel
theorem dX3_aim_125 : decode cX3_aim 125 = .ok (.getfield 15, 3) := by decide +kernel
theorem dX3_aim_128 : decode cX3_aim 128 = .ok (.iload 11, 2) := by decide +kernel
theorem dX3_aim_130 : decode cX3_aim 130 = .ok (.invokestatic 46, 3) := by decide +kernel
theorem dX3_aim_133 : decode cX3_aim 133 = .ok (.iload 7, 2) := by decide +kernel
theorem dX3_aim_135 : decode cX3_aim 135 = .ok (.if_icmp .ne 38, 3) := by decide +kernel
theorem dX3_aim_138 : decode cX3_aim 138 = .ok (.aload_n 0, 1) := by decide +kernel
theorem dX3_aim_139 : decode cX3_aim 139 = .ok (.iload 11, 2) := by decide +kernel
theorem dX3_aim_141 : decode cX3_aim 141 = .ok (.iload 9, 2) := by decide +kernel
theorem dX3_aim_143 : decode cX3_aim 143 = .ok (.invokevirtual 50, 3) := by decide +kernel
theorem dX3_aim_146 : decode cX3_aim 146 = .ok (.iload 4, 2) := by decide +kernel
theorem dX3_aim_148 : decode cX3_aim 148 = .ok (.if_icmp .ne 25, 3) := by decide +kernel
theorem dX3_aim_151 : decode cX3_aim 151 = .ok (.iload 10, 2) := by decide +kernel
theorem dX3_aim_153 : decode cX3_aim 153 = .ok (.iconst (-1), 1) := by decide +kernel
theorem dX3_aim_154 : decode cX3_aim 154 = .ok (.if_icmp .eq 16, 3) := by decide +kernel
theorem dX3_aim_157 : decode cX3_aim 157 = .ok (.aload_n 0, 1) := by decide +kernel
theorem dX3_aim_158 : decode cX3_aim 158 = .ok (.iload 11, 2) := by decide +kernel
theorem dX3_aim_160 : decode cX3_aim 160 = .ok (.iload 10, 2) := by decide +kernel
theorem dX3_aim_162 : decode cX3_aim 162 = .ok (.invokevirtual 50, 3) := by decide +kernel
theorem dX3_aim_165 : decode cX3_aim 165 = .ok (.iload 6, 2) := by decide +kernel
theorem dX3_aim_167 : decode cX3_aim 167 = .ok (.if_icmp .ne 6, 3) := by decide +kernel
theorem dX3_aim_170 : decode cX3_aim 170 = .ok (.iload 11, 2) := by decide +kernel
theorem dX3_aim_172 : decode cX3_aim 172 = .ok (.ireturn, 1) := by decide +kernel
theorem dX3_aim_173 : decode cX3_aim 173 = .ok (.iinc 11 1, 3) := by decide +kernel
theorem dX3_aim_176 : decode cX3_aim 176 = .ok (.goto (-61), 3) := by decide +kernel
theorem dX3_aim_179 : decode cX3_aim 179 = .ok (.iconst (-1), 1) := by decide +kernel
theorem dX3_aim_180 : decode cX3_aim 180 = .ok (.ireturn, 1) := by decide +kernel
abbrev M_X3_aim : mM := (cX3_aim, 12, RX3, some .int, false, 2, 43, 0, 0)
theorem gX3_aim : cI yX3_aim M_X3_aim 3 := ⟨(wsl_33 _ (List.mem_of_getElem? (i := 23) rfl)), (wsl_34 _ (List.mem_of_getElem? (i := 0) rfl)), (wsl_4 _ (List.mem_of_getElem? (i := 5) rfl)), (wsl_34 _ (List.mem_of_getElem? (i := 1) rfl)), by decide +kernel⟩
noncomputable def fX3_aim_s115 (h : hH) (a0 l4 l6 l7 l9 l10 : Int) : Int → Option ((Int) ⊕ (Int)) := fun l11 =>
  if l11 < h a0 0 then
    (fX11_at h (h a0 3) l11).bind fun r130 =>
    if r130 = l7 then
      (fX3_value h a0 l11 l9).bind fun r143 =>
      if r143 = l4 then
        if l10 = -1 then
          some (.inr (l11))
        else
          (fX3_value h a0 l11 l10).bind fun r162 =>
          if r162 = l6 then
            some (.inr (l11))
          else
            some (.inl (w32 (l11 + 1)))
      else
        some (.inl (w32 (l11 + 1)))
    else
      some (.inl (w32 (l11 + 1)))
  else
    some (.inr (-1))
noncomputable def fX3_aim_b78 (h : hH) (a0 a1 a3 l4 l6 : Int) : Option (Int) :=
  (fX4_refPart h a1 a3 1).bind fun r81 =>
  (fX4_refPart h a1 a3 2).bind fun r89 =>
  (fX4_keyPart h a1 r89 1).bind fun r98 =>
  (fX4_keyPart h a1 r89 2).bind fun r107 =>
  lpO (fX3_aim_s115 h a0 l4 l6 r81 r98 r107) 0
noncomputable def fX3_aim_b56 (h : hH) (a0 a1 a3 l4 l5 s0 : Int) : Option (Int) :=
  if l4 = -1 then
    some (-1)
  else
    if l5 = -1 then
      fX3_aim_b78 h a0 a1 a3 l4 s0
    else
      if s0 = -1 then
        some (-1)
      else
        fX3_aim_b78 h a0 a1 a3 l4 s0
noncomputable def fX3_aim (h : hH) (a0 a1 a2 a3 : Int) : Option (Int) :=
  (fX3_tableAt h a0 a2).bind fun r2 =>
  (fX4_refPart h a1 a3 0).bind fun r8 =>
  if r2 = r8 then
    (fX4_refPart h a1 a3 7).bind fun r22 =>
    (fX3_value h a0 a2 r22).bind fun r25 =>
    (fX4_refPart h a1 a3 8).bind fun r34 =>
    if r34 = -1 then
      fX3_aim_b56 h a0 a1 a3 r25 r34 (-1)
    else
      (fX3_value h a0 a2 r34).bind fun r53 =>
      fX3_aim_b56 h a0 a1 a3 r25 r34 r53
  else
    some (-1)
section M_X3_aim
variable {p : Program} {l : Launch} {e : Env} {R : Room} {s : State} {m : MethodId} {args : Array Value} {below : List Frame} {meth : Method} {c : Code} {D : va_G} {G : gG} {A : Nat → Prop} {H0 : Heap} {n0 : Int} {x : Option vV × hH} {h : hH}
set_option maxRecDepth 100000 in
set_option maxHeartbeats 4000000 in
theorem oX3_aim_s115 {a0 l4 l6 l7 l9 l10 l11 : Int} {K : (Int) ⊕ (Int) → Prop} (k0 : ∀ r, K (.inr (r)) → x = (some (0, r), h)) (k1 : ∀ (l11 : Int), K (.inl l11) → Wq p l e R s m args below meth c D G A H0 true n0 M_X3_aim x 0 0 115 [(0, (13, a0)), (4, (0, l4)), (6, (0, l6)), (7, (0, l7)), (9, (0, l9)), (10, (0, l10)), (11, (0, l11))] [] h) {r : (Int) ⊕ (Int)} (hr : fX3_aim_s115 h a0 l4 l6 l7 l9 l10 l11 = some r) (hk : K r) : Wq p l e R s m args below meth c D G A H0 true n0 M_X3_aim x 0 0 115 [(0, (13, a0)), (4, (0, l4)), (6, (0, l6)), (7, (0, l7)), (9, (0, l9)), (10, (0, l10)), (11, (0, l11))] [] h := by
  unfold fX3_aim_s115 at hr
  refine r_iload dX3_aim_115 6 rfl (Or.inl rfl) ?_
  refine r_aload_n dX3_aim_117 rfl 0 rfl (nl rfl) ?_
  refine r_get 3 0 (o := a0) (w := (0, h a0 0)) (T := TX3) (ref := "FollowingRefs$Rows") rfl (by decide) rfl (by decide) inlX3 (wsl_22 _ (List.mem_of_getElem? (i := 23) rfl)) rfl dX3_aim_118 rfl ?_
  refine r_icmp_ge dX3_aim_121 (tgt := 179) (by decide) (fun hc => ?_) (fun hc => ?_)
  · have hr := ifn hr hc
    refine r_iconst dX3_aim_179 (by decide) ?_
    obtain rfl := Option.some.inj hr
    exact r_ret dX3_aim_180 rfl (Or.inl ⟨rfl, rfl⟩) (k0 _ hk) ⟨rfl, rfl⟩
  · have hr := ifp hr hc
    refine r_aload_n dX3_aim_124 rfl 0 rfl (nl rfl) ?_
    refine r_get 3 3 (o := a0) (w := (50, h a0 3)) (T := TX3) (ref := "FollowingRefs$Rows") rfl (by decide) rfl (by decide) inlX3 (wsl_4 _ (List.mem_of_getElem? (i := 12) rfl)) rfl dX3_aim_125 rfl ?_
    refine r_iload dX3_aim_128 6 rfl (Or.inl rfl) ?_
    obtain ⟨r130, hg130, hr⟩ := bnd hr
    refine k_SN (host := "FollowingRefs") (as := [(50, h a0 3), (0, l11)]) (rest := []) (X := (some (0, r130), h)) (oX11_at hg130) gX11_at rfl (List.mem_of_getElem? (i := 20) rfl) rfl dX3_aim_130 rfl ?_
    refine r_iload dX3_aim_133 3 rfl (Or.inl rfl) ?_
    refine r_icmp_ne dX3_aim_135 (tgt := 173) (by decide) (fun hc => ?_) (fun hc => ?_)
    · have hr := ifn hr hc
      refine r_iinc (k := 6) (v := l11) dX3_aim_173 rfl (by decide) (lv' := [(11, (0, w32 (l11 + 1))), (0, (13, a0)), (4, (0, l4)), (6, (0, l6)), (7, (0, l7)), (9, (0, l9)), (10, (0, l10))]) rfl ?_
      refine r_goto dX3_aim_176 (tgt := 115) (by decide) ?_
      refine r_sub [1, 2, 3, 4, 5, 6, 0] (lv' := [(0, (13, a0)), (4, (0, l4)), (6, (0, l6)), (7, (0, l7)), (9, (0, l9)), (10, (0, l10)), (11, (0, w32 (l11 + 1)))]) rfl ?_
      obtain rfl := Option.some.inj hr
      exact k1 _ hk
    · have hr := ifp hr hc
      refine r_aload_n dX3_aim_138 rfl 0 rfl (nl rfl) ?_
      refine r_iload dX3_aim_139 6 rfl (Or.inl rfl) ?_
      refine r_iload dX3_aim_141 4 rfl (Or.inl rfl) ?_
      obtain ⟨r143, hg143, hr⟩ := bnd hr
      refine k_V (ci := 3) (o := a0) (T := TX3) (as := [(0, l11), (0, l9)]) (rest := []) (X := (some (0, r143), h)) (oX3_value hg143) gX3_value rfl (by decide) rfl (wsl_34 _ (List.mem_of_getElem? (i := 10) rfl)) rfl dX3_aim_143 rfl ?_
      refine r_iload dX3_aim_146 1 rfl (Or.inl rfl) ?_
      refine r_icmp_ne dX3_aim_148 (tgt := 173) (by decide) (fun hc => ?_) (fun hc => ?_)
      · have hr := ifn hr hc
        refine r_iinc (k := 6) (v := l11) dX3_aim_173 rfl (by decide) (lv' := [(11, (0, w32 (l11 + 1))), (0, (13, a0)), (4, (0, l4)), (6, (0, l6)), (7, (0, l7)), (9, (0, l9)), (10, (0, l10))]) rfl ?_
        refine r_goto dX3_aim_176 (tgt := 115) (by decide) ?_
        refine r_sub [1, 2, 3, 4, 5, 6, 0] (lv' := [(0, (13, a0)), (4, (0, l4)), (6, (0, l6)), (7, (0, l7)), (9, (0, l9)), (10, (0, l10)), (11, (0, w32 (l11 + 1)))]) rfl ?_
        obtain rfl := Option.some.inj hr
        exact k1 _ hk
      · have hr := ifp hr hc
        refine r_iload dX3_aim_151 5 rfl (Or.inl rfl) ?_
        refine r_iconst dX3_aim_153 (by decide) ?_
        refine r_icmp_eq dX3_aim_154 (tgt := 170) (by decide) (fun hc => ?_) (fun hc => ?_)
        · have hr := ifp hr hc
          refine r_iload dX3_aim_170 6 rfl (Or.inl rfl) ?_
          obtain rfl := Option.some.inj hr
          exact r_ret dX3_aim_172 rfl (Or.inl ⟨rfl, rfl⟩) (k0 _ hk) ⟨rfl, rfl⟩
        · have hr := ifn hr hc
          refine r_aload_n dX3_aim_157 rfl 0 rfl (nl rfl) ?_
          refine r_iload dX3_aim_158 6 rfl (Or.inl rfl) ?_
          refine r_iload dX3_aim_160 5 rfl (Or.inl rfl) ?_
          obtain ⟨r162, hg162, hr⟩ := bnd hr
          refine k_V (ci := 3) (o := a0) (T := TX3) (as := [(0, l11), (0, l10)]) (rest := []) (X := (some (0, r162), h)) (oX3_value hg162) gX3_value rfl (by decide) rfl (wsl_34 _ (List.mem_of_getElem? (i := 10) rfl)) rfl dX3_aim_162 rfl ?_
          refine r_iload dX3_aim_165 2 rfl (Or.inl rfl) ?_
          refine r_icmp_ne dX3_aim_167 (tgt := 173) (by decide) (fun hc => ?_) (fun hc => ?_)
          · have hr := ifn hr hc
            refine r_iinc (k := 6) (v := l11) dX3_aim_173 rfl (by decide) (lv' := [(11, (0, w32 (l11 + 1))), (0, (13, a0)), (4, (0, l4)), (6, (0, l6)), (7, (0, l7)), (9, (0, l9)), (10, (0, l10))]) rfl ?_
            refine r_goto dX3_aim_176 (tgt := 115) (by decide) ?_
            refine r_sub [1, 2, 3, 4, 5, 6, 0] (lv' := [(0, (13, a0)), (4, (0, l4)), (6, (0, l6)), (7, (0, l7)), (9, (0, l9)), (10, (0, l10)), (11, (0, w32 (l11 + 1)))]) rfl ?_
            obtain rfl := Option.some.inj hr
            exact k1 _ hk
          · have hr := ifp hr hc
            refine r_iload dX3_aim_170 6 rfl (Or.inl rfl) ?_
            obtain rfl := Option.some.inj hr
            exact r_ret dX3_aim_172 rfl (Or.inl ⟨rfl, rfl⟩) (k0 _ hk) ⟨rfl, rfl⟩
set_option maxRecDepth 100000 in
set_option maxHeartbeats 4000000 in
theorem oX3_aim_b78 {a0 a1 a3 l4 l6 : Int} {K : Int → Prop} (k0 : ∀ r, K (r) → x = (some (0, r), h)) {r : Int} (hr : fX3_aim_b78 h a0 a1 a3 l4 l6 = some r) (hk : K r) : Wq p l e R s m args below meth c D G A H0 true n0 M_X3_aim x 0 0 78 [(0, (13, a0)), (1, (14, a1)), (3, (0, a3)), (4, (0, l4)), (6, (0, l6))] [] h := by
  unfold fX3_aim_b78 at hr
  refine r_aload_n dX3_aim_78 rfl 1 rfl (nl rfl) ?_
  refine r_iload_n dX3_aim_79 rfl 2 rfl (Or.inl rfl) ?_
  refine r_iconst dX3_aim_80 (by decide) ?_
  obtain ⟨r81, hg81, hr⟩ := bnd hr
  refine k_V (ci := 4) (o := a1) (T := TX4) (as := [(0, a3), (0, 1)]) (rest := []) (X := (some (0, r81), h)) (oX4_refPart hg81) gX4_refPart rfl (by decide) rfl (wsl_34 _ (List.mem_of_getElem? (i := 6) rfl)) rfl dX3_aim_81 rfl ?_
  refine r_istore dX3_aim_84 (Or.inl rfl) (by decide) (lv' := [(7, (0, r81)), (0, (13, a0)), (1, (14, a1)), (3, (0, a3)), (4, (0, l4)), (6, (0, l6))]) rfl ?_
  refine r_aload_n dX3_aim_86 rfl 2 rfl (nl rfl) ?_
  refine r_iload_n dX3_aim_87 rfl 3 rfl (Or.inl rfl) ?_
  refine r_iconst dX3_aim_88 (by decide) ?_
  obtain ⟨r89, hg89, hr⟩ := bnd hr
  refine k_V (ci := 4) (o := a1) (T := TX4) (as := [(0, a3), (0, 2)]) (rest := []) (X := (some (0, r89), h)) (oX4_refPart hg89) gX4_refPart rfl (by decide) rfl (wsl_34 _ (List.mem_of_getElem? (i := 6) rfl)) rfl dX3_aim_89 rfl ?_
  refine r_istore dX3_aim_92 (Or.inl rfl) (by decide) (lv' := [(8, (0, r89)), (7, (0, r81)), (0, (13, a0)), (1, (14, a1)), (3, (0, a3)), (4, (0, l4)), (6, (0, l6))]) rfl ?_
  refine r_aload_n dX3_aim_94 rfl 3 rfl (nl rfl) ?_
  refine r_iload dX3_aim_95 0 rfl (Or.inl rfl) ?_
  refine r_iconst dX3_aim_97 (by decide) ?_
  obtain ⟨r98, hg98, hr⟩ := bnd hr
  refine k_V (ci := 4) (o := a1) (T := TX4) (as := [(0, r89), (0, 1)]) (rest := []) (X := (some (0, r98), h)) (oX4_keyPart hg98) gX4_keyPart rfl (by decide) rfl (wsl_34 _ (List.mem_of_getElem? (i := 14) rfl)) rfl dX3_aim_98 rfl ?_
  refine r_istore dX3_aim_101 (Or.inl rfl) (by decide) (lv' := [(9, (0, r98)), (8, (0, r89)), (7, (0, r81)), (0, (13, a0)), (1, (14, a1)), (3, (0, a3)), (4, (0, l4)), (6, (0, l6))]) rfl ?_
  refine r_aload_n dX3_aim_103 rfl 4 rfl (nl rfl) ?_
  refine r_iload dX3_aim_104 1 rfl (Or.inl rfl) ?_
  refine r_iconst dX3_aim_106 (by decide) ?_
  obtain ⟨r107, hg107, hr⟩ := bnd hr
  refine k_V (ci := 4) (o := a1) (T := TX4) (as := [(0, r89), (0, 2)]) (rest := []) (X := (some (0, r107), h)) (oX4_keyPart hg107) gX4_keyPart rfl (by decide) rfl (wsl_34 _ (List.mem_of_getElem? (i := 14) rfl)) rfl dX3_aim_107 rfl ?_
  refine r_istore dX3_aim_110 (Or.inl rfl) (by decide) (lv' := [(10, (0, r107)), (9, (0, r98)), (8, (0, r89)), (7, (0, r81)), (0, (13, a0)), (1, (14, a1)), (3, (0, a3)), (4, (0, l4)), (6, (0, l6))]) rfl ?_
  refine r_iconst dX3_aim_112 (by decide) ?_
  refine r_istore dX3_aim_113 (Or.inl rfl) (by decide) (lv' := [(11, (0, 0)), (10, (0, r107)), (9, (0, r98)), (8, (0, r89)), (7, (0, r81)), (0, (13, a0)), (1, (14, a1)), (3, (0, a3)), (4, (0, l4)), (6, (0, l6))]) rfl ?_
  refine r_sub [5, 8, 9, 4, 2, 1, 0] (lv' := [(0, (13, a0)), (4, (0, l4)), (6, (0, l6)), (7, (0, r81)), (9, (0, r98)), (10, (0, r107)), (11, (0, 0))]) rfl ?_
  exact lp_ok (w := fun (q : Int) => Wq p l e R s m args below meth c D G A H0 true n0 M_X3_aim x 0 0 115 [(0, (13, a0)), (4, (0, l4)), (6, (0, l6)), (7, (0, r81)), (9, (0, r98)), (10, (0, r107)), (11, (0, q))] [] (h)) (K := K) (fun q r h1 h2 => oX3_aim_s115 (K := Sum.elim (fun (q : Int) => Wq p l e R s m args below meth c D G A H0 true n0 M_X3_aim x 0 0 115 [(0, (13, a0)), (4, (0, l4)), (6, (0, l6)), (7, (0, r81)), (9, (0, r98)), (10, (0, r107)), (11, (0, q))] [] (h)) (K)) (fun r z => k0 r z) (fun _ z => z) h1 h2) hr hk
set_option maxRecDepth 100000 in
set_option maxHeartbeats 4000000 in
theorem oX3_aim_b56 {a0 a1 a3 l4 l5 s0 : Int} {K : Int → Prop} (k0 : ∀ r, K (r) → x = (some (0, r), h)) {r : Int} (hr : fX3_aim_b56 h a0 a1 a3 l4 l5 s0 = some r) (hk : K r) : Wq p l e R s m args below meth c D G A H0 true n0 M_X3_aim x 0 0 56 [(0, (13, a0)), (1, (14, a1)), (3, (0, a3)), (4, (0, l4)), (5, (0, l5))] [(0, s0)] h := by
  unfold fX3_aim_b56 at hr
  refine r_istore dX3_aim_56 (Or.inl rfl) (by decide) (lv' := [(6, (0, s0)), (0, (13, a0)), (1, (14, a1)), (3, (0, a3)), (4, (0, l4)), (5, (0, l5))]) rfl ?_
  refine r_iload dX3_aim_58 4 rfl (Or.inl rfl) ?_
  refine r_iconst dX3_aim_60 (by decide) ?_
  refine r_icmp_eq dX3_aim_61 (tgt := 76) (by decide) (fun hc => ?_) (fun hc => ?_)
  · have hr := ifp hr hc
    refine r_iconst dX3_aim_76 (by decide) ?_
    obtain rfl := Option.some.inj hr
    exact r_ret dX3_aim_77 rfl (Or.inl ⟨rfl, rfl⟩) (k0 _ hk) ⟨rfl, rfl⟩
  · have hr := ifn hr hc
    refine r_iload dX3_aim_64 5 rfl (Or.inl rfl) ?_
    refine r_iconst dX3_aim_66 (by decide) ?_
    refine r_icmp_eq dX3_aim_67 (tgt := 78) (by decide) (fun hc => ?_) (fun hc => ?_)
    · have hr := ifp hr hc
      refine r_sub [1, 2, 3, 4, 0] (lv' := [(0, (13, a0)), (1, (14, a1)), (3, (0, a3)), (4, (0, l4)), (6, (0, s0))]) rfl ?_
      exact oX3_aim_b78 (K := K) (fun r z => k0 r z) hr hk
    · have hr := ifn hr hc
      refine r_iload dX3_aim_70 0 rfl (Or.inl rfl) ?_
      refine r_iconst dX3_aim_72 (by decide) ?_
      refine r_icmp_ne dX3_aim_73 (tgt := 78) (by decide) (fun hc => ?_) (fun hc => ?_)
      · have hr := ifn hr hc
        refine r_sub [1, 2, 3, 4, 0] (lv' := [(0, (13, a0)), (1, (14, a1)), (3, (0, a3)), (4, (0, l4)), (6, (0, s0))]) rfl ?_
        exact oX3_aim_b78 (K := K) (fun r z => k0 r z) hr hk
      · have hr := ifp hr hc
        refine r_iconst dX3_aim_76 (by decide) ?_
        obtain rfl := Option.some.inj hr
        exact r_ret dX3_aim_77 rfl (Or.inl ⟨rfl, rfl⟩) (k0 _ hk) ⟨rfl, rfl⟩
set_option maxRecDepth 100000 in
set_option maxHeartbeats 4000000 in
theorem oX3_aim_b0 {a0 a1 a2 a3 : Int} {K : Int → Prop} (k0 : ∀ r, K (r) → x = (some (0, r), h)) {r : Int} (hr : fX3_aim h a0 a1 a2 a3 = some r) (hk : K r) : Wq p l e R s m args below meth c D G A H0 true n0 M_X3_aim x 0 0 0 [(0, (13, a0)), (1, (14, a1)), (2, (0, a2)), (3, (0, a3))] [] h := by
  unfold fX3_aim at hr
  refine r_aload_n dX3_aim_0 rfl 0 rfl (nl rfl) ?_
  refine r_iload_n dX3_aim_1 rfl 2 rfl (Or.inl rfl) ?_
  obtain ⟨r2, hg2, hr⟩ := bnd hr
  refine k_V (ci := 3) (o := a0) (T := TX3) (as := [(0, a2)]) (rest := []) (X := (some (0, r2), h)) (oX3_tableAt hg2) gX3_tableAt rfl (by decide) rfl (wsl_34 _ (List.mem_of_getElem? (i := 2) rfl)) rfl dX3_aim_2 rfl ?_
  refine r_aload_n dX3_aim_5 rfl 1 rfl (nl rfl) ?_
  refine r_iload_n dX3_aim_6 rfl 3 rfl (Or.inl rfl) ?_
  refine r_iconst dX3_aim_7 (by decide) ?_
  obtain ⟨r8, hg8, hr⟩ := bnd hr
  refine k_V (ci := 4) (o := a1) (T := TX4) (as := [(0, a3), (0, 0)]) (rest := [(0, r2)]) (X := (some (0, r8), h)) (oX4_refPart hg8) gX4_refPart rfl (by decide) rfl (wsl_34 _ (List.mem_of_getElem? (i := 6) rfl)) rfl dX3_aim_8 rfl ?_
  refine r_icmp_eq dX3_aim_11 (tgt := 16) (by decide) (fun hc => ?_) (fun hc => ?_)
  · have hr := ifp hr hc
    refine r_aload_n dX3_aim_16 rfl 0 rfl (nl rfl) ?_
    refine r_iload_n dX3_aim_17 rfl 2 rfl (Or.inl rfl) ?_
    refine r_aload_n dX3_aim_18 rfl 1 rfl (nl rfl) ?_
    refine r_iload_n dX3_aim_19 rfl 3 rfl (Or.inl rfl) ?_
    refine r_bipush dX3_aim_20 (by decide) (by decide) ?_
    obtain ⟨r22, hg22, hr⟩ := bnd hr
    refine k_V (ci := 4) (o := a1) (T := TX4) (as := [(0, a3), (0, 7)]) (rest := [(0, a2), (13, a0)]) (X := (some (0, r22), h)) (oX4_refPart hg22) gX4_refPart rfl (by decide) rfl (wsl_34 _ (List.mem_of_getElem? (i := 6) rfl)) rfl dX3_aim_22 rfl ?_
    obtain ⟨r25, hg25, hr⟩ := bnd hr
    refine k_V (ci := 3) (o := a0) (T := TX3) (as := [(0, a2), (0, r22)]) (rest := []) (X := (some (0, r25), h)) (oX3_value hg25) gX3_value rfl (by decide) rfl (wsl_34 _ (List.mem_of_getElem? (i := 10) rfl)) rfl dX3_aim_25 rfl ?_
    refine r_istore dX3_aim_28 (Or.inl rfl) (by decide) (lv' := [(4, (0, r25)), (0, (13, a0)), (1, (14, a1)), (2, (0, a2)), (3, (0, a3))]) rfl ?_
    refine r_aload_n dX3_aim_30 rfl 2 rfl (nl rfl) ?_
    refine r_iload_n dX3_aim_31 rfl 4 rfl (Or.inl rfl) ?_
    refine r_bipush dX3_aim_32 (by decide) (by decide) ?_
    obtain ⟨r34, hg34, hr⟩ := bnd hr
    refine k_V (ci := 4) (o := a1) (T := TX4) (as := [(0, a3), (0, 8)]) (rest := []) (X := (some (0, r34), h)) (oX4_refPart hg34) gX4_refPart rfl (by decide) rfl (wsl_34 _ (List.mem_of_getElem? (i := 6) rfl)) rfl dX3_aim_34 rfl ?_
    refine r_istore dX3_aim_37 (Or.inl rfl) (by decide) (lv' := [(5, (0, r34)), (4, (0, r25)), (0, (13, a0)), (1, (14, a1)), (2, (0, a2)), (3, (0, a3))]) rfl ?_
    refine r_iload dX3_aim_39 0 rfl (Or.inl rfl) ?_
    refine r_iconst dX3_aim_41 (by decide) ?_
    refine r_icmp_ne dX3_aim_42 (tgt := 49) (by decide) (fun hc => ?_) (fun hc => ?_)
    · have hr := ifn hr hc
      refine r_aload_n dX3_aim_49 rfl 2 rfl (nl rfl) ?_
      refine r_iload_n dX3_aim_50 rfl 4 rfl (Or.inl rfl) ?_
      refine r_iload dX3_aim_51 0 rfl (Or.inl rfl) ?_
      obtain ⟨r53, hg53, hr⟩ := bnd hr
      refine k_V (ci := 3) (o := a0) (T := TX3) (as := [(0, a2), (0, r34)]) (rest := []) (X := (some (0, r53), h)) (oX3_value hg53) gX3_value rfl (by decide) rfl (wsl_34 _ (List.mem_of_getElem? (i := 10) rfl)) rfl dX3_aim_53 rfl ?_
      refine r_sub [2, 3, 5, 1, 0] (lv' := [(0, (13, a0)), (1, (14, a1)), (3, (0, a3)), (4, (0, r25)), (5, (0, r34))]) rfl ?_
      exact oX3_aim_b56 (K := K) (fun r z => k0 r z) hr hk
    · have hr := ifp hr hc
      refine r_iconst dX3_aim_45 (by decide) ?_
      refine r_goto dX3_aim_46 (tgt := 56) (by decide) ?_
      refine r_sub [2, 3, 5, 1, 0] (lv' := [(0, (13, a0)), (1, (14, a1)), (3, (0, a3)), (4, (0, r25)), (5, (0, r34))]) rfl ?_
      exact oX3_aim_b56 (K := K) (fun r z => k0 r z) hr hk
  · have hr := ifn hr hc
    refine r_iconst dX3_aim_14 (by decide) ?_
    obtain rfl := Option.some.inj hr
    exact r_ret dX3_aim_15 rfl (Or.inl ⟨rfl, rfl⟩) (k0 _ hk) ⟨rfl, rfl⟩
end M_X3_aim
theorem oX3_aim {l : Launch} {D : va_G} {G : gG} {h : hH} {a0 a1 a2 a3 : Int} {r : Int} (hr : fX3_aim h a0 a1 a2 a3 = some r) : Ctr l D G true yX3_aim M_X3_aim [(13, a0), (14, a1), (0, a2), (0, a3)] h (some (0, r), h) :=
  Ctr_of (by decide) rfl (fun z => by cases z) (nl rfl) (fun {p e R s m args below meth c A H0} => by
    exact oX3_aim_b0 (K := fun z9 => z9 = r) (fun r9 z => by rw [z]) hr rfl)
/-! X1_findAims -/
theorem dX1_findAims_0 : decode cX1_findAims 0 = .ok (.iconst 0, 1) := by decide +kernel
theorem dX1_findAims_1 : decode cX1_findAims 1 = .ok (.istore_n 1, 1) := by decide +kernel
theorem dX1_findAims_2 : decode cX1_findAims 2 = .ok (.iload_n 1, 1) := by decide +kernel
theorem dX1_findAims_3 : decode cX1_findAims 3 = .ok (.aload_n 0, 1) := by decide +kernel
theorem dX1_findAims_4 : decode cX1_findAims 4 = .ok (.getfield 48, 3) := by decide +kernel
theorem dX1_findAims_7 : decode cX1_findAims 7 = .ok (.getfield 124, 3) := by decide +kernel
theorem dX1_findAims_10 : decode cX1_findAims 10 = .ok (.getfield 138, 3) := by decide +kernel
theorem dX1_findAims_13 : decode cX1_findAims 13 = .ok (.if_icmp .ge 57, 3) := by decide +kernel
theorem dX1_findAims_16 : decode cX1_findAims 16 = .ok (.iconst 0, 1) := by decide +kernel
theorem dX1_findAims_17 : decode cX1_findAims 17 = .ok (.istore_n 2, 1) := by decide +kernel
theorem dX1_findAims_18 : decode cX1_findAims 18 = .ok (.iload_n 2, 1) := by decide +kernel
theorem dX1_findAims_19 : decode cX1_findAims 19 = .ok (.aload_n 0, 1) := by decide +kernel
theorem dX1_findAims_20 : decode cX1_findAims 20 = .ok (.getfield 44, 3) := by decide +kernel
theorem dX1_findAims_23 : decode cX1_findAims 23 = .ok (.getfield 141, 3) := by decide +kernel
theorem dX1_findAims_26 : decode cX1_findAims 26 = .ok (.if_icmp .ge 38, 3) := by decide +kernel
theorem dX1_findAims_29 : decode cX1_findAims 29 = .ok (.aload_n 0, 1) := by decide +kernel
theorem dX1_findAims_30 : decode cX1_findAims 30 = .ok (.getfield 35, 3) := by decide +kernel
theorem dX1_findAims_33 : decode cX1_findAims 33 = .ok (.iload_n 1, 1) := by decide +kernel
theorem dX1_findAims_34 : decode cX1_findAims 34 = .ok (.bipush 6, 2) := by decide +kernel
theorem dX1_findAims_36 : decode cX1_findAims 36 = .ok (.imul, 1) := by decide +kernel
theorem dX1_findAims_37 : decode cX1_findAims 37 = .ok (.iload_n 2, 1) := by decide +kernel
theorem dX1_findAims_38 : decode cX1_findAims 38 = .ok (.iadd, 1) := by decide +kernel
theorem dX1_findAims_39 : decode cX1_findAims 39 = .ok (.aload_n 0, 1) := by decide +kernel
theorem dX1_findAims_40 : decode cX1_findAims 40 = .ok (.getfield 48, 3) := by decide +kernel
theorem dX1_findAims_43 : decode cX1_findAims 43 = .ok (.getfield 124, 3) := by decide +kernel
theorem dX1_findAims_46 : decode cX1_findAims 46 = .ok (.aload_n 0, 1) := by decide +kernel
theorem dX1_findAims_47 : decode cX1_findAims 47 = .ok (.getfield 44, 3) := by decide +kernel
theorem dX1_findAims_50 : decode cX1_findAims 50 = .ok (.iload_n 1, 1) := by decide +kernel
theorem dX1_findAims_51 : decode cX1_findAims 51 = .ok (.iload_n 2, 1) := by decide +kernel
theorem dX1_findAims_52 : decode cX1_findAims 52 = .ok (.invokevirtual 146, 3) := by decide +kernel
theorem dX1_findAims_55 : decode cX1_findAims 55 = .ok (.invokestatic 150, 3) := by decide +kernel
theorem dX1_findAims_58 : decode cX1_findAims 58 = .ok (.iinc 2 1, 3) := by decide +kernel
theorem dX1_findAims_61 : decode cX1_findAims 61 = .ok (.goto (-43), 3) := by decide +kernel
theorem dX1_findAims_64 : decode cX1_findAims 64 = .ok (.iinc 1 1, 3) := by decide +kernel
theorem dX1_findAims_67 : decode cX1_findAims 67 = .ok (.goto (-65), 3) := by decide +kernel
theorem dX1_findAims_70 : decode cX1_findAims 70 = .ok (.return_, 1) := by decide +kernel
abbrev M_X1_findAims : mM := (cX1_findAims, 3, RX1, none, false, 3, 74, 0, 0)
theorem gX1_findAims : cI yX1_findAims M_X1_findAims 0 := ⟨(wsl_33 _ (List.mem_of_getElem? (i := 17) rfl)), (wsl_33 _ (List.mem_of_getElem? (i := 18) rfl)), (wsl_2 _ (List.mem_of_getElem? (i := 19) rfl)), (wsl_33 _ (List.mem_of_getElem? (i := 19) rfl)), by decide +kernel⟩
noncomputable def fX1_findAims_s18 (h0 : hH) (a0 l1 : Int) : hH × Int → Option ((hH × Int) ⊕ ((hH × Int) ⊕ (hH))) := fun (h, l2) =>
  if l2 < h (h a0 0) 2 then
    (fX3_aim h (h (h a0 1) 0) (h a0 0) l1 l2).bind fun r52 =>
    (fX11_put h (h a0 14) (w32 ((w32 (l1 * 6)) + l2)) r52).bind fun h55 =>
    some (.inl (h55, w32 (l2 + 1)))
  else
    some (.inr (.inl (h, w32 (l1 + 1))))
noncomputable def fX1_findAims_s2 (h0 : hH) (a0 : Int) : hH × Int → Option ((hH × Int) ⊕ (hH)) := fun (h, l1) =>
  if l1 < h (h (h a0 1) 0) 0 then
    lpO (fX1_findAims_s18 h a0 l1) (h, 0)
  else
    some (.inr (h))
noncomputable def fX1_findAims (h : hH) (a0 : Int) : Option (hH) :=
  lpO (fX1_findAims_s2 h a0) (h, 0)
section M_X1_findAims
variable {p : Program} {l : Launch} {e : Env} {R : Room} {s : State} {m : MethodId} {args : Array Value} {below : List Frame} {meth : Method} {c : Code} {D : va_G} {G : gG} {A : Nat → Prop} {H0 : Heap} {n0 : Int} {x : Option vV × hH} {h : hH}
set_option maxRecDepth 100000 in
set_option maxHeartbeats 4000000 in
theorem oX1_findAims_s18 {h0 : hH} {a0 l1 l2 : Int} {K : (hH × Int) ⊕ ((hH × Int) ⊕ (hH)) → Prop} (k0 : ∀ r, K (.inr (.inr (r))) → x = (none, r)) (k1 : ∀ (h : hH) (l1 : Int), K (.inr (.inl (h, l1))) → Wq p l e R s m args below meth c D G A H0 true n0 M_X1_findAims x 0 0 2 [(0, (11, a0)), (1, (0, l1))] [] h) (k2 : ∀ (h : hH) (l2 : Int), K (.inl (h, l2)) → Wq p l e R s m args below meth c D G A H0 true n0 M_X1_findAims x 0 0 18 [(0, (11, a0)), (1, (0, l1)), (2, (0, l2))] [] h) {r : (hH × Int) ⊕ ((hH × Int) ⊕ (hH))} (hr : fX1_findAims_s18 h0 a0 l1 (h, l2) = some r) (hk : K r) : Wq p l e R s m args below meth c D G A H0 true n0 M_X1_findAims x 0 0 18 [(0, (11, a0)), (1, (0, l1)), (2, (0, l2))] [] h := by
  unfold fX1_findAims_s18 at hr
  refine r_iload_n dX1_findAims_18 rfl 2 rfl (Or.inl rfl) ?_
  refine r_aload_n dX1_findAims_19 rfl 0 rfl (nl rfl) ?_
  refine r_get 1 0 (o := a0) (w := (14, h a0 0)) (T := TX1) (ref := "FollowingRefs$Judge") rfl (by decide) rfl (by decide) inlX1 (wsl_6 _ (List.mem_of_getElem? (i := 8) rfl)) rfl dX1_findAims_20 rfl ?_
  refine r_get 4 2 (o := h a0 0) (w := (0, h (h a0 0) 2)) (T := TX4) (ref := "FollowingRefs$Schema") rfl (by decide) rfl (by decide) inlX4 (wsl_33 _ (List.mem_of_getElem? (i := 21) rfl)) rfl dX1_findAims_23 rfl ?_
  refine r_icmp_ge dX1_findAims_26 (tgt := 64) (by decide) (fun hc => ?_) (fun hc => ?_)
  · have hr := ifn hr hc
    refine r_iinc (k := 1) (v := l1) dX1_findAims_64 rfl (by decide) (lv' := [(1, (0, w32 (l1 + 1))), (0, (11, a0)), (2, (0, l2))]) rfl ?_
    refine r_goto dX1_findAims_67 (tgt := 2) (by decide) ?_
    refine r_sub [1, 0] (lv' := [(0, (11, a0)), (1, (0, w32 (l1 + 1)))]) rfl ?_
    obtain rfl := Option.some.inj hr
    exact k1 _ _ hk
  · have hr := ifp hr hc
    refine r_aload_n dX1_findAims_29 rfl 0 rfl (nl rfl) ?_
    refine r_get 1 14 (o := a0) (w := (50, h a0 14)) (T := TX1) (ref := "FollowingRefs$Judge") rfl (by decide) rfl (by decide) inlX1 (wsl_6 _ (List.mem_of_getElem? (i := 5) rfl)) rfl dX1_findAims_30 rfl ?_
    refine r_iload_n dX1_findAims_33 rfl 1 rfl (Or.inl rfl) ?_
    refine r_bipush dX1_findAims_34 (by decide) (by decide) ?_
    refine r_imul dX1_findAims_36 ?_
    refine r_iload_n dX1_findAims_37 rfl 2 rfl (Or.inl rfl) ?_
    refine r_iadd dX1_findAims_38 ?_
    refine r_aload_n dX1_findAims_39 rfl 0 rfl (nl rfl) ?_
    refine r_get 1 1 (o := a0) (w := (18, h a0 1)) (T := TX1) (ref := "FollowingRefs$Judge") rfl (by decide) rfl (by decide) inlX1 (wsl_6 _ (List.mem_of_getElem? (i := 9) rfl)) rfl dX1_findAims_40 rfl ?_
    refine r_get 8 0 (o := h a0 1) (w := (13, h (h a0 1) 0)) (T := TX8) (ref := "FollowingRefs$State") rfl (by decide) rfl (by decide) inlX8 (wsl_32 _ (List.mem_of_getElem? (i := 22) rfl)) rfl dX1_findAims_43 rfl ?_
    refine r_aload_n dX1_findAims_46 rfl 0 rfl (nl rfl) ?_
    refine r_get 1 0 (o := a0) (w := (14, h a0 0)) (T := TX1) (ref := "FollowingRefs$Judge") rfl (by decide) rfl (by decide) inlX1 (wsl_6 _ (List.mem_of_getElem? (i := 8) rfl)) rfl dX1_findAims_47 rfl ?_
    refine r_iload_n dX1_findAims_50 rfl 1 rfl (Or.inl rfl) ?_
    refine r_iload_n dX1_findAims_51 rfl 2 rfl (Or.inl rfl) ?_
    obtain ⟨r52, hg52, hr⟩ := bnd hr
    refine k_V (ci := 3) (o := h (h a0 1) 0) (T := TX3) (as := [(14, h a0 0), (0, l1), (0, l2)]) (rest := [(0, w32 ((w32 (l1 * 6)) + l2)), (50, h a0 14)]) (X := (some (0, r52), h)) (oX3_aim hg52) gX3_aim rfl (by decide) rfl (wsl_33 _ (List.mem_of_getElem? (i := 22) rfl)) rfl dX1_findAims_52 rfl ?_
    obtain ⟨h55, hg55, hr⟩ := bnd hr
    refine k_SN (host := "FollowingRefs") (as := [(50, h a0 14), (0, w32 ((w32 (l1 * 6)) + l2)), (0, r52)]) (rest := []) (X := (none, h55)) (oX11_put hg55) gX11_put rfl (List.mem_of_getElem? (i := 5) rfl) rfl dX1_findAims_55 rfl ?_
    refine r_iinc (k := 2) (v := l2) dX1_findAims_58 rfl (by decide) (lv' := [(2, (0, w32 (l2 + 1))), (0, (11, a0)), (1, (0, l1))]) rfl ?_
    refine r_goto dX1_findAims_61 (tgt := 18) (by decide) ?_
    refine r_sub [1, 2, 0] (lv' := [(0, (11, a0)), (1, (0, l1)), (2, (0, w32 (l2 + 1)))]) rfl ?_
    obtain rfl := Option.some.inj hr
    exact k2 _ _ hk
set_option maxRecDepth 100000 in
set_option maxHeartbeats 4000000 in
theorem oX1_findAims_s2 {h0 : hH} {a0 l1 : Int} {K : (hH × Int) ⊕ (hH) → Prop} (k0 : ∀ r, K (.inr (r)) → x = (none, r)) (k1 : ∀ (h : hH) (l1 : Int), K (.inl (h, l1)) → Wq p l e R s m args below meth c D G A H0 true n0 M_X1_findAims x 0 0 2 [(0, (11, a0)), (1, (0, l1))] [] h) {r : (hH × Int) ⊕ (hH)} (hr : fX1_findAims_s2 h0 a0 (h, l1) = some r) (hk : K r) : Wq p l e R s m args below meth c D G A H0 true n0 M_X1_findAims x 0 0 2 [(0, (11, a0)), (1, (0, l1))] [] h := by
  unfold fX1_findAims_s2 at hr
  refine r_iload_n dX1_findAims_2 rfl 1 rfl (Or.inl rfl) ?_
  refine r_aload_n dX1_findAims_3 rfl 0 rfl (nl rfl) ?_
  refine r_get 1 1 (o := a0) (w := (18, h a0 1)) (T := TX1) (ref := "FollowingRefs$Judge") rfl (by decide) rfl (by decide) inlX1 (wsl_6 _ (List.mem_of_getElem? (i := 9) rfl)) rfl dX1_findAims_4 rfl ?_
  refine r_get 8 0 (o := h a0 1) (w := (13, h (h a0 1) 0)) (T := TX8) (ref := "FollowingRefs$State") rfl (by decide) rfl (by decide) inlX8 (wsl_32 _ (List.mem_of_getElem? (i := 22) rfl)) rfl dX1_findAims_7 rfl ?_
  refine r_get 3 0 (o := h (h a0 1) 0) (w := (0, h (h (h a0 1) 0) 0)) (T := TX3) (ref := "FollowingRefs$Rows") rfl (by decide) rfl (by decide) inlX3 (wsl_33 _ (List.mem_of_getElem? (i := 20) rfl)) rfl dX1_findAims_10 rfl ?_
  refine r_icmp_ge dX1_findAims_13 (tgt := 70) (by decide) (fun hc => ?_) (fun hc => ?_)
  · have hr := ifn hr hc
    obtain rfl := Option.some.inj hr
    exact r_vret dX1_findAims_70 rfl (k0 _ hk) ⟨rfl, rfl⟩
  · have hr := ifp hr hc
    refine r_iconst dX1_findAims_16 (by decide) ?_
    refine r_istore_n dX1_findAims_17 rfl (Or.inl rfl) (by decide) (lv' := [(2, (0, 0)), (0, (11, a0)), (1, (0, l1))]) rfl ?_
    refine r_sub [1, 2, 0] (lv' := [(0, (11, a0)), (1, (0, l1)), (2, (0, 0))]) rfl ?_
    exact lp_ok (w := fun (q : hH × Int) => Wq p l e R s m args below meth c D G A H0 true n0 M_X1_findAims x 0 0 18 [(0, (11, a0)), (1, (0, l1)), (2, (0, q.2))] [] (q.1)) (K := K) (fun ⟨q0, q1⟩ r h1 h2 => oX1_findAims_s18 (K := Sum.elim (fun (q : hH × Int) => Wq p l e R s m args below meth c D G A H0 true n0 M_X1_findAims x 0 0 18 [(0, (11, a0)), (1, (0, l1)), (2, (0, q.2))] [] (q.1)) (K)) (fun r z => k0 r z) (fun _ _ z => k1 _ _ z) (fun _ _ z => z) h1 h2) hr hk
set_option maxRecDepth 100000 in
set_option maxHeartbeats 4000000 in
theorem oX1_findAims_b0 {a0 : Int} {K : hH → Prop} (k0 : ∀ r, K (r) → x = (none, r)) {r : hH} (hr : fX1_findAims h a0 = some r) (hk : K r) : Wq p l e R s m args below meth c D G A H0 true n0 M_X1_findAims x 0 0 0 [(0, (11, a0))] [] h := by
  unfold fX1_findAims at hr
  refine r_iconst dX1_findAims_0 (by decide) ?_
  refine r_istore_n dX1_findAims_1 rfl (Or.inl rfl) (by decide) (lv' := [(1, (0, 0)), (0, (11, a0))]) rfl ?_
  refine r_sub [1, 0] (lv' := [(0, (11, a0)), (1, (0, 0))]) rfl ?_
  exact lp_ok (w := fun (q : hH × Int) => Wq p l e R s m args below meth c D G A H0 true n0 M_X1_findAims x 0 0 2 [(0, (11, a0)), (1, (0, q.2))] [] (q.1)) (K := K) (fun ⟨q0, q1⟩ r h1 h2 => oX1_findAims_s2 (K := Sum.elim (fun (q : hH × Int) => Wq p l e R s m args below meth c D G A H0 true n0 M_X1_findAims x 0 0 2 [(0, (11, a0)), (1, (0, q.2))] [] (q.1)) (K)) (fun r z => k0 r z) (fun _ _ z => z) h1 h2) hr hk
end M_X1_findAims
theorem oX1_findAims {l : Launch} {D : va_G} {G : gG} {h : hH} {a0 : Int} {r : hH} (hr : fX1_findAims h a0 = some r) : Ctr l D G true yX1_findAims M_X1_findAims [(11, a0)] h (none, r) :=
  Ctr_of (by decide) rfl (fun z => by cases z) (nl rfl) (fun {p e R s m args below meth c A H0} => by
    exact oX1_findAims_b0 (K := fun z9 => z9 = r) (fun r9 z => by rw [z]) hr rfl)
/-! X11_compares -/
theorem dX11_compares_0 : decode cX11_compares 0 = .ok (.iload_n 1, 1) := by decide +kernel
theorem dX11_compares_1 : decode cX11_compares 1 = .ok (.bipush 60, 2) := by decide +kernel
theorem dX11_compares_3 : decode cX11_compares 3 = .ok (.if_icmp .ne 16, 3) := by decide +kernel
theorem dX11_compares_6 : decode cX11_compares 6 = .ok (.iload_n 0, 1) := by decide +kernel
theorem dX11_compares_7 : decode cX11_compares 7 = .ok (.iload_n 2, 1) := by decide +kernel
theorem dX11_compares_8 : decode cX11_compares 8 = .ok (.if_icmp .ge 7, 3) := by decide +kernel
theorem dX11_compares_11 : decode cX11_compares 11 = .ok (.iconst 1, 1) := by decide +kernel
theorem dX11_compares_12 : decode cX11_compares 12 = .ok (.goto 36, 3) := by decide +kernel
theorem dX11_compares_15 : decode cX11_compares 15 = .ok (.iconst 0, 1) := by decide +kernel
theorem dX11_compares_16 : decode cX11_compares 16 = .ok (.goto 32, 3) := by decide +kernel
theorem dX11_compares_19 : decode cX11_compares 19 = .ok (.iload_n 1, 1) := by decide +kernel
theorem dX11_compares_20 : decode cX11_compares 20 = .ok (.bipush 62, 2) := by decide +kernel
theorem dX11_compares_22 : decode cX11_compares 22 = .ok (.if_icmp .ne 16, 3) := by decide +kernel
theorem dX11_compares_25 : decode cX11_compares 25 = .ok (.iload_n 0, 1) := by decide +kernel
theorem dX11_compares_26 : decode cX11_compares 26 = .ok (.iload_n 2, 1) := by decide +kernel
theorem dX11_compares_27 : decode cX11_compares 27 = .ok (.if_icmp .le 7, 3) := by decide +kernel
theorem dX11_compares_30 : decode cX11_compares 30 = .ok (.iconst 1, 1) := by decide +kernel
theorem dX11_compares_31 : decode cX11_compares 31 = .ok (.goto 17, 3) := by decide +kernel
theorem dX11_compares_34 : decode cX11_compares 34 = .ok (.iconst 0, 1) := by decide +kernel
theorem dX11_compares_35 : decode cX11_compares 35 = .ok (.goto 13, 3) := by decide +kernel
theorem dX11_compares_38 : decode cX11_compares 38 = .ok (.iload_n 0, 1) := by decide +kernel
theorem dX11_compares_39 : decode cX11_compares 39 = .ok (.iload_n 2, 1) := by decide +kernel
theorem dX11_compares_40 : decode cX11_compares 40 = .ok (.if_icmp .ne 7, 3) := by decide +kernel
theorem dX11_compares_43 : decode cX11_compares 43 = .ok (.iconst 1, 1) := by decide +kernel
theorem dX11_compares_44 : decode cX11_compares 44 = .ok (.goto 4, 3) := by decide +kernel
theorem dX11_compares_47 : decode cX11_compares 47 = .ok (.iconst 0, 1) := by decide +kernel
theorem dX11_compares_48 : decode cX11_compares 48 = .ok (.ireturn, 1) := by decide +kernel
abbrev M_X11_compares : mM := (cX11_compares, 3, RX11, some .boolean, false, 0, 0, 0, 0)
theorem gX11_compares : cS yX11_compares M_X11_compares 3 := ⟨(wsl_35 _ (List.mem_of_getElem? (i := 1) rfl)), (wsl_1 _ (List.mem_of_getElem? (i := 2) rfl)), (wsl_35 _ (List.mem_of_getElem? (i := 2) rfl)), by decide +kernel⟩
noncomputable def fX11_compares (h : hH) (a0 a1 a2 : Int) : Option (Int) :=
  if a1 = 60 then
    if a0 < a2 then
      some 1
    else
      some 0
  else
    if a1 = 62 then
      if a2 < a0 then
        some 1
      else
        some 0
    else
      if a0 = a2 then
        some 1
      else
        some 0
section M_X11_compares
variable {p : Program} {l : Launch} {e : Env} {R : Room} {s : State} {m : MethodId} {args : Array Value} {below : List Frame} {meth : Method} {c : Code} {D : va_G} {G : gG} {A : Nat → Prop} {H0 : Heap} {n0 : Int} {x : Option vV × hH} {h : hH}
set_option maxRecDepth 100000 in
set_option maxHeartbeats 4000000 in
theorem oX11_compares_b0 {a0 a1 a2 : Int} {K : Int → Prop} (k0 : ∀ r, K (r) → x = (some (2, r), h)) {r : Int} (hr : fX11_compares h a0 a1 a2 = some r) (hk : K r) : Wq p l e R s m args below meth c D G A H0 true n0 M_X11_compares x 0 0 0 [(0, (0, a0)), (1, (0, a1)), (2, (0, a2))] [] h := by
  unfold fX11_compares at hr
  refine r_iload_n dX11_compares_0 rfl 1 rfl (Or.inl rfl) ?_
  refine r_bipush dX11_compares_1 (by decide) (by decide) ?_
  refine r_icmp_ne dX11_compares_3 (tgt := 19) (by decide) (fun hc => ?_) (fun hc => ?_)
  · have hr := ifn hr hc
    refine r_iload_n dX11_compares_19 rfl 1 rfl (Or.inl rfl) ?_
    refine r_bipush dX11_compares_20 (by decide) (by decide) ?_
    refine r_icmp_ne dX11_compares_22 (tgt := 38) (by decide) (fun hc => ?_) (fun hc => ?_)
    · have hr := ifn hr hc
      refine r_iload_n dX11_compares_38 rfl 0 rfl (Or.inl rfl) ?_
      refine r_iload_n dX11_compares_39 rfl 2 rfl (Or.inl rfl) ?_
      refine r_icmp_ne dX11_compares_40 (tgt := 47) (by decide) (fun hc => ?_) (fun hc => ?_)
      · have hr := ifn hr hc
        refine r_iconst dX11_compares_47 (by decide) ?_
        refine r_scast 0 (v := (0, 0)) (w := (2, 0)) rfl cz (fun _ => Or.inl rfl) (st' := [(2, 0)]) rfl ?_
        obtain rfl := Option.some.inj hr
        exact r_ret dX11_compares_48 rfl (Or.inr ⟨rfl, rfl⟩) (k0 _ hk) ⟨rfl, rfl⟩
      · have hr := ifp hr hc
        refine r_iconst dX11_compares_43 (by decide) ?_
        refine r_goto dX11_compares_44 (tgt := 48) (by decide) ?_
        refine r_scast 0 (v := (0, 1)) (w := (2, 1)) rfl cz (fun _ => Or.inr rfl) (st' := [(2, 1)]) rfl ?_
        obtain rfl := Option.some.inj hr
        exact r_ret dX11_compares_48 rfl (Or.inr ⟨rfl, rfl⟩) (k0 _ hk) ⟨rfl, rfl⟩
    · have hr := ifp hr hc
      refine r_iload_n dX11_compares_25 rfl 0 rfl (Or.inl rfl) ?_
      refine r_iload_n dX11_compares_26 rfl 2 rfl (Or.inl rfl) ?_
      refine r_icmp_le dX11_compares_27 (tgt := 34) (by decide) (fun hc => ?_) (fun hc => ?_)
      · have hr := ifn hr hc
        refine r_iconst dX11_compares_34 (by decide) ?_
        refine r_goto dX11_compares_35 (tgt := 48) (by decide) ?_
        refine r_scast 0 (v := (0, 0)) (w := (2, 0)) rfl cz (fun _ => Or.inl rfl) (st' := [(2, 0)]) rfl ?_
        obtain rfl := Option.some.inj hr
        exact r_ret dX11_compares_48 rfl (Or.inr ⟨rfl, rfl⟩) (k0 _ hk) ⟨rfl, rfl⟩
      · have hr := ifp hr hc
        refine r_iconst dX11_compares_30 (by decide) ?_
        refine r_goto dX11_compares_31 (tgt := 48) (by decide) ?_
        refine r_scast 0 (v := (0, 1)) (w := (2, 1)) rfl cz (fun _ => Or.inr rfl) (st' := [(2, 1)]) rfl ?_
        obtain rfl := Option.some.inj hr
        exact r_ret dX11_compares_48 rfl (Or.inr ⟨rfl, rfl⟩) (k0 _ hk) ⟨rfl, rfl⟩
  · have hr := ifp hr hc
    refine r_iload_n dX11_compares_6 rfl 0 rfl (Or.inl rfl) ?_
    refine r_iload_n dX11_compares_7 rfl 2 rfl (Or.inl rfl) ?_
    refine r_icmp_ge dX11_compares_8 (tgt := 15) (by decide) (fun hc => ?_) (fun hc => ?_)
    · have hr := ifn hr hc
      refine r_iconst dX11_compares_15 (by decide) ?_
      refine r_goto dX11_compares_16 (tgt := 48) (by decide) ?_
      refine r_scast 0 (v := (0, 0)) (w := (2, 0)) rfl cz (fun _ => Or.inl rfl) (st' := [(2, 0)]) rfl ?_
      obtain rfl := Option.some.inj hr
      exact r_ret dX11_compares_48 rfl (Or.inr ⟨rfl, rfl⟩) (k0 _ hk) ⟨rfl, rfl⟩
    · have hr := ifp hr hc
      refine r_iconst dX11_compares_11 (by decide) ?_
      refine r_goto dX11_compares_12 (tgt := 48) (by decide) ?_
      refine r_scast 0 (v := (0, 1)) (w := (2, 1)) rfl cz (fun _ => Or.inr rfl) (st' := [(2, 1)]) rfl ?_
      obtain rfl := Option.some.inj hr
      exact r_ret dX11_compares_48 rfl (Or.inr ⟨rfl, rfl⟩) (k0 _ hk) ⟨rfl, rfl⟩
end M_X11_compares
theorem oX11_compares {l : Launch} {D : va_G} {G : gG} {h : hH} {a0 a1 a2 : Int} {r : Int} (hr : fX11_compares h a0 a1 a2 = some r) : Ctr l D G true yX11_compares M_X11_compares [(0, a0), (0, a1), (0, a2)] h (some (2, r), h) :=
  Ctr_of (by decide) rfl (fun z => by cases z) (nl rfl) (fun {p e R s m args below meth c A H0} => by
    exact oX11_compares_b0 (K := fun z9 => z9 = r) (fun r9 z => by rw [z]) hr rfl)
/-! X2_finds -/
theorem dX2_finds_0 : decode cX2_finds 0 = .ok (.aload_n 2, 1) := by decide +kernel
theorem dX2_finds_1 : decode cX2_finds 1 = .ok (.iload_n 3, 1) := by decide +kernel
theorem dX2_finds_2 : decode cX2_finds 2 = .ok (.invokevirtual 115, 3) := by decide +kernel
theorem dX2_finds_5 : decode cX2_finds 5 = .ok (.aload_n 0, 1) := by decide +kernel
theorem dX2_finds_6 : decode cX2_finds 6 = .ok (.iload_n 1, 1) := by decide +kernel
theorem dX2_finds_7 : decode cX2_finds 7 = .ok (.iconst 1, 1) := by decide +kernel
theorem dX2_finds_8 : decode cX2_finds 8 = .ok (.invokevirtual 35, 3) := by decide +kernel
theorem dX2_finds_11 : decode cX2_finds 11 = .ok (.if_icmp .eq 5, 3) := by decide +kernel
theorem dX2_finds_14 : decode cX2_finds 14 = .ok (.iconst 0, 1) := by decide +kernel
theorem dX2_finds_15 : decode cX2_finds 15 = .ok (.ireturn, 1) := by decide +kernel
theorem dX2_finds_16 : decode cX2_finds 16 = .ok (.iconst 0, 1) := by decide +kernel
theorem dX2_finds_17 : decode cX2_finds 17 = .ok (.istore 4, 2) := by decide +kernel
theorem dX2_finds_19 : decode cX2_finds 19 = .ok (.iload 4, 2) := by decide +kernel
theorem dX2_finds_21 : decode cX2_finds 21 = .ok (.aload_n 0, 1) := by decide +kernel
theorem dX2_finds_22 : decode cX2_finds 22 = .ok (.iload_n 1, 1) := by decide +kernel
theorem dX2_finds_23 : decode cX2_finds 23 = .ok (.iconst 2, 1) := by decide +kernel
theorem dX2_finds_24 : decode cX2_finds 24 = .ok (.invokevirtual 35, 3) := by decide +kernel
theorem dX2_finds_27 : decode cX2_finds 27 = .ok (.if_icmp .ge 119, 3) := by decide +kernel
theorem dX2_finds_30 : decode cX2_finds 30 = .ok (.iload 4, 2) := by decide +kernel
theorem dX2_finds_32 : decode cX2_finds 32 = .ok (.iconst 4, 1) := by decide +kernel
theorem dX2_finds_33 : decode cX2_finds 33 = .ok (.if_icmp .ge 113, 3) := by decide +kernel
theorem dX2_finds_36 : decode cX2_finds 36 = .ok (.bipush 7, 2) := by decide +kernel
theorem dX2_finds_38 : decode cX2_finds 38 = .ok (.iload 4, 2) := by decide +kernel
theorem dX2_finds_40 : decode cX2_finds 40 = .ok (.iconst 3, 1) := by decide +kernel
theorem dX2_finds_41 : decode cX2_finds 41 = .ok (.imul, 1) := by decide +kernel
theorem dX2_finds_42 : decode cX2_finds 42 = .ok (.iadd, 1) := by decide +kernel
theorem dX2_finds_43 : decode cX2_finds 43 = .ok (.istore 5, 2) := by decide +kernel
theorem dX2_finds_45 : decode cX2_finds 45 = .ok (.aload_n 2, 1) := by decide +kernel
theorem dX2_finds_46 : decode cX2_finds 46 = .ok (.iload_n 3, 1) := by decide +kernel
theorem dX2_finds_47 : decode cX2_finds 47 = .ok (.aload_n 0, 1) := by decide +kernel
theorem dX2_finds_48 : decode cX2_finds 48 = .ok (.iload_n 1, 1) := by decide +kernel
theorem dX2_finds_49 : decode cX2_finds 49 = .ok (.iload 5, 2) := by decide +kernel
theorem dX2_finds_51 : decode cX2_finds 51 = .ok (.invokevirtual 35, 3) := by decide +kernel
theorem dX2_finds_54 : decode cX2_finds 54 = .ok (.invokevirtual 120, 3) := by decide +kernel
theorem dX2_finds_57 : decode cX2_finds 57 = .ok (.istore 6, 2) := by decide +kernel
theorem dX2_finds_59 : decode cX2_finds 59 = .ok (.aload_n 0, 1) := by decide +kernel
theorem dX2_finds_60 : decode cX2_finds 60 = .ok (.iload_n 1, 1) := by decide +kernel
theorem dX2_finds_61 : decode cX2_finds 61 = .ok (.iload 5, 2) := by decide +kernel
theorem dX2_finds_63 : decode cX2_finds 63 = .ok (.iconst 1, 1) := by decide +kernel
theorem dX2_finds_64 : decode cX2_finds 64 = .ok (.iadd, 1) := by decide +kernel
theorem dX2_finds_65 : decode cX2_finds 65 = .ok (.invokevirtual 35, 3) := by decide +kernel
theorem dX2_finds_68 : decode cX2_finds 68 = .ok (.istore 7, 2) := by decide +kernel
theorem dX2_finds_70 : decode cX2_finds 70 = .ok (.aload_n 0, 1) := by decide +kernel
theorem dX2_finds_71 : decode cX2_finds 71 = .ok (.iload_n 1, 1) := by decide +kernel
theorem dX2_finds_72 : decode cX2_finds 72 = .ok (.iload 5, 2) := by decide +kernel
theorem dX2_finds_74 : decode cX2_finds 74 = .ok (.iconst 2, 1) := by decide +kernel
theorem dX2_finds_75 : decode cX2_finds 75 = .ok (.iadd, 1) := by decide +kernel
theorem dX2_finds_76 : decode cX2_finds 76 = .ok (.invokevirtual 35, 3) := by decide +kernel
theorem dX2_finds_79 : decode cX2_finds 79 = .ok (.istore 8, 2) := by decide +kernel
theorem dX2_finds_81 : decode cX2_finds 81 = .ok (.iload 8, 2) := by decide +kernel
theorem dX2_finds_83 : decode cX2_finds 83 = .ok (.iconst (-1), 1) := by decide +kernel
theorem dX2_finds_84 : decode cX2_finds 84 = .ok (.if_icmp .ne 24, 3) := by decide +kernel
theorem dX2_finds_87 : decode cX2_finds 87 = .ok (.iload 7, 2) := by decide +kernel
theorem dX2_finds_89 : decode cX2_finds 89 = .ok (.bipush 61, 2) := by decide +kernel
theorem dX2_finds_91 : decode cX2_finds 91 = .ok (.if_icmp .ne 13, 3) := by decide +kernel
theorem dX2_finds_94 : decode cX2_finds 94 = .ok (.iload 6, 2) := by decide +kernel
theorem dX2_finds_96 : decode cX2_finds 96 = .ok (.iconst (-1), 1) := by decide +kernel
theorem dX2_finds_97 : decode cX2_finds 97 = .ok (.if_icmp .ne 7, 3) := by decide +kernel
theorem dX2_finds_100 : decode cX2_finds 100 = .ok (.iconst 1, 1) := by decide +kernel
theorem dX2_finds_101 : decode cX2_finds 101 = .ok (.goto 30, 3) := by decide +kernel
theorem dX2_finds_104 : decode cX2_finds 104 = .ok (.iconst 0, 1) := by decide +kernel
theorem dX2_finds_105 : decode cX2_finds 105 = .ok (.goto 26, 3) := by decide +kernel
theorem dX2_finds_108 : decode cX2_finds 108 = .ok (.iload 6, 2) := by decide +kernel
theorem dX2_finds_110 : decode cX2_finds 110 = .ok (.iconst (-1), 1) := by decide +kernel
theorem dX2_finds_111 : decode cX2_finds 111 = .ok (.if_icmp .eq 19, 3) := by decide +kernel
theorem dX2_finds_114 : decode cX2_finds 114 = .ok (.iload 6, 2) := by decide +kernel
theorem dX2_finds_116 : decode cX2_finds 116 = .ok (.iload 7, 2) := by decide +kernel
theorem dX2_finds_118 : decode cX2_finds 118 = .ok (.iload 8, 2) := by decide +kernel
theorem dX2_finds_120 : decode cX2_finds 120 = .ok (.invokestatic 123, 3) := by decide +kernel
theorem dX2_finds_123 : decode cX2_finds 123 = .ok (.ifCond .eq 7, 3) := by decide +kernel
theorem dX2_finds_126 : decode cX2_finds 126 = .ok (.iconst 1, 1) := by decide +kernel
theorem dX2_finds_127 : decode cX2_finds 127 = .ok (.goto 4, 3) := by decide +kernel
theorem dX2_finds_130 : decode cX2_finds 130 = .ok (.iconst 0, 1) := by decide +kernel
theorem dX2_finds_131 : decode cX2_finds 131 = .ok (.istore 9, 2) := by decide +kernel
theorem dX2_finds_133 : decode cX2_finds 133 = .ok (.iload 9, 2) := by decide +kernel
theorem dX2_finds_135 : decode cX2_finds 135 = .ok (.ifCond .ne 5, 3) := by decide +kernel
theorem dX2_finds_138 : decode cX2_finds 138 = .ok (.iconst 0, 1) := by decide +kernel
theorem dX2_finds_139 : decode cX2_finds 139 = .ok (.ireturn, 1) := by decide +kernel
theorem dX2_finds_140 : decode cX2_finds 140 = .ok (.iinc 4 1, 3) := by decide +kernel
theorem dX2_finds_143 : decode cX2_finds 143 = .ok (.goto (-124), 3) := by decide +kernel
theorem dX2_finds_146 : decode cX2_finds 146 = .ok (.iconst 1, 1) := by decide +kernel
theorem dX2_finds_147 : decode cX2_finds 147 = .ok (.ireturn, 1) := by decide +kernel
abbrev M_X2_finds : mM := (cX2_finds, 10, RX2, some .boolean, false, 2, 43, 0, 0)
theorem gX2_finds : cI yX2_finds M_X2_finds 3 := ⟨(wsl_34 _ (List.mem_of_getElem? (i := 20) rfl)), (wsl_34 _ (List.mem_of_getElem? (i := 21) rfl)), (wsl_2 _ (List.mem_of_getElem? (i := 15) rfl)), (wsl_34 _ (List.mem_of_getElem? (i := 22) rfl)), by decide +kernel⟩
noncomputable def fX2_finds_b131 (h : hH) (a0 a1 a2 a3 l4 s0 : Int) : Option ((Int) ⊕ (Int)) :=
  if s0 = 0 then
    some (.inr (0))
  else
    some (.inl (w32 (l4 + 1)))
noncomputable def fX2_finds_b104 (h : hH) (a0 a1 a2 a3 l4 : Int) : Option ((Int) ⊕ (Int)) :=
  fX2_finds_b131 h a0 a1 a2 a3 l4 0
noncomputable def fX2_finds_b130 (h : hH) (a0 a1 a2 a3 l4 : Int) : Option ((Int) ⊕ (Int)) :=
  fX2_finds_b131 h a0 a1 a2 a3 l4 0
noncomputable def fX2_finds_s19 (h : hH) (a0 a1 a2 a3 : Int) : Int → Option ((Int) ⊕ (Int)) := fun l4 =>
  (fX2_part h a0 a1 2).bind fun r24 =>
  if l4 < r24 then
    if l4 < 4 then
      (fX2_part h a0 a1 (w32 (7 + (w32 (l4 * 3))))).bind fun r51 =>
      (fX3_value h a2 a3 r51).bind fun r54 =>
      (fX2_part h a0 a1 (w32 ((w32 (7 + (w32 (l4 * 3)))) + 1))).bind fun r65 =>
      (fX2_part h a0 a1 (w32 ((w32 (7 + (w32 (l4 * 3)))) + 2))).bind fun r76 =>
      if r76 = -1 then
        if r65 = 61 then
          if r54 = -1 then
            fX2_finds_b131 h a0 a1 a2 a3 l4 1
          else
            fX2_finds_b104 h a0 a1 a2 a3 l4
        else
          fX2_finds_b104 h a0 a1 a2 a3 l4
      else
        if r54 = -1 then
          fX2_finds_b130 h a0 a1 a2 a3 l4
        else
          (fX11_compares h r54 r65 r76).bind fun r120 =>
          if r120 = 0 then
            fX2_finds_b130 h a0 a1 a2 a3 l4
          else
            fX2_finds_b131 h a0 a1 a2 a3 l4 1
    else
      some (.inr (1))
  else
    some (.inr (1))
noncomputable def fX2_finds (h : hH) (a0 a1 a2 a3 : Int) : Option (Int) :=
  (fX3_tableAt h a2 a3).bind fun r2 =>
  (fX2_part h a0 a1 1).bind fun r8 =>
  if r2 = r8 then
    lpO (fX2_finds_s19 h a0 a1 a2 a3) 0
  else
    some 0
section M_X2_finds
variable {p : Program} {l : Launch} {e : Env} {R : Room} {s : State} {m : MethodId} {args : Array Value} {below : List Frame} {meth : Method} {c : Code} {D : va_G} {G : gG} {A : Nat → Prop} {H0 : Heap} {n0 : Int} {x : Option vV × hH} {h : hH}
set_option maxRecDepth 100000 in
set_option maxHeartbeats 4000000 in
theorem oX2_finds_b131 {a0 a1 a2 a3 l4 s0 : Int} {K : (Int) ⊕ (Int) → Prop} (k0 : ∀ r, K (.inr (r)) → x = (some (2, r), h)) (k1 : ∀ (l4 : Int), K (.inl l4) → Wq p l e R s m args below meth c D G A H0 true n0 M_X2_finds x 0 0 19 [(0, (12, a0)), (1, (0, a1)), (2, (13, a2)), (3, (0, a3)), (4, (0, l4))] [] h) {r : (Int) ⊕ (Int)} (hr : fX2_finds_b131 h a0 a1 a2 a3 l4 s0 = some r) (hk : K r) : Wq p l e R s m args below meth c D G A H0 true n0 M_X2_finds x 0 0 131 [(0, (12, a0)), (1, (0, a1)), (2, (13, a2)), (3, (0, a3)), (4, (0, l4))] [(2, s0)] h := by
  unfold fX2_finds_b131 at hr
  refine r_istore dX2_finds_131 (Or.inr rfl) (by decide) (lv' := [(9, (2, s0)), (0, (12, a0)), (1, (0, a1)), (2, (13, a2)), (3, (0, a3)), (4, (0, l4))]) rfl ?_
  refine r_iload dX2_finds_133 0 rfl (Or.inr rfl) ?_
  refine r_scast 0 (v := (2, s0)) (w := (0, s0)) rfl zc hTz (st' := [(0, s0)]) rfl ?_
  refine r_if_ne dX2_finds_135 (tgt := 140) (by decide) (fun hc => ?_) (fun hc => ?_)
  · have hr := ifn hr hc
    refine r_iinc (k := 5) (v := l4) dX2_finds_140 rfl (by decide) (lv' := [(4, (0, w32 (l4 + 1))), (9, (2, s0)), (0, (12, a0)), (1, (0, a1)), (2, (13, a2)), (3, (0, a3))]) rfl ?_
    refine r_goto dX2_finds_143 (tgt := 19) (by decide) ?_
    refine r_sub [2, 3, 4, 5, 0] (lv' := [(0, (12, a0)), (1, (0, a1)), (2, (13, a2)), (3, (0, a3)), (4, (0, w32 (l4 + 1)))]) rfl ?_
    obtain rfl := Option.some.inj hr
    exact k1 _ hk
  · have hr := ifp hr hc
    refine r_iconst dX2_finds_138 (by decide) ?_
    refine r_scast 0 (v := (0, 0)) (w := (2, 0)) rfl cz (fun _ => Or.inl rfl) (st' := [(2, 0)]) rfl ?_
    obtain rfl := Option.some.inj hr
    exact r_ret dX2_finds_139 rfl (Or.inr ⟨rfl, rfl⟩) (k0 _ hk) ⟨rfl, rfl⟩
set_option maxRecDepth 100000 in
set_option maxHeartbeats 4000000 in
theorem oX2_finds_b104 {a0 a1 a2 a3 l4 : Int} {K : (Int) ⊕ (Int) → Prop} (k0 : ∀ r, K (.inr (r)) → x = (some (2, r), h)) (k1 : ∀ (l4 : Int), K (.inl l4) → Wq p l e R s m args below meth c D G A H0 true n0 M_X2_finds x 0 0 19 [(0, (12, a0)), (1, (0, a1)), (2, (13, a2)), (3, (0, a3)), (4, (0, l4))] [] h) {r : (Int) ⊕ (Int)} (hr : fX2_finds_b104 h a0 a1 a2 a3 l4 = some r) (hk : K r) : Wq p l e R s m args below meth c D G A H0 true n0 M_X2_finds x 0 0 104 [(0, (12, a0)), (1, (0, a1)), (2, (13, a2)), (3, (0, a3)), (4, (0, l4))] [] h := by
  unfold fX2_finds_b104 at hr
  refine r_iconst dX2_finds_104 (by decide) ?_
  refine r_goto dX2_finds_105 (tgt := 131) (by decide) ?_
  refine r_scast 0 (v := (0, 0)) (w := (2, 0)) rfl cz (fun _ => Or.inl rfl) (st' := [(2, 0)]) rfl ?_
  exact oX2_finds_b131 (K := K) (fun r z => k0 r z) (fun _ z => k1 _ z) hr hk
set_option maxRecDepth 100000 in
set_option maxHeartbeats 4000000 in
theorem oX2_finds_b130 {a0 a1 a2 a3 l4 : Int} {K : (Int) ⊕ (Int) → Prop} (k0 : ∀ r, K (.inr (r)) → x = (some (2, r), h)) (k1 : ∀ (l4 : Int), K (.inl l4) → Wq p l e R s m args below meth c D G A H0 true n0 M_X2_finds x 0 0 19 [(0, (12, a0)), (1, (0, a1)), (2, (13, a2)), (3, (0, a3)), (4, (0, l4))] [] h) {r : (Int) ⊕ (Int)} (hr : fX2_finds_b130 h a0 a1 a2 a3 l4 = some r) (hk : K r) : Wq p l e R s m args below meth c D G A H0 true n0 M_X2_finds x 0 0 130 [(0, (12, a0)), (1, (0, a1)), (2, (13, a2)), (3, (0, a3)), (4, (0, l4))] [] h := by
  unfold fX2_finds_b130 at hr
  refine r_iconst dX2_finds_130 (by decide) ?_
  refine r_scast 0 (v := (0, 0)) (w := (2, 0)) rfl cz (fun _ => Or.inl rfl) (st' := [(2, 0)]) rfl ?_
  exact oX2_finds_b131 (K := K) (fun r z => k0 r z) (fun _ z => k1 _ z) hr hk
set_option maxRecDepth 100000 in
set_option maxHeartbeats 4000000 in
theorem oX2_finds_s19 {a0 a1 a2 a3 l4 : Int} {K : (Int) ⊕ (Int) → Prop} (k0 : ∀ r, K (.inr (r)) → x = (some (2, r), h)) (k1 : ∀ (l4 : Int), K (.inl l4) → Wq p l e R s m args below meth c D G A H0 true n0 M_X2_finds x 0 0 19 [(0, (12, a0)), (1, (0, a1)), (2, (13, a2)), (3, (0, a3)), (4, (0, l4))] [] h) {r : (Int) ⊕ (Int)} (hr : fX2_finds_s19 h a0 a1 a2 a3 l4 = some r) (hk : K r) : Wq p l e R s m args below meth c D G A H0 true n0 M_X2_finds x 0 0 19 [(0, (12, a0)), (1, (0, a1)), (2, (13, a2)), (3, (0, a3)), (4, (0, l4))] [] h := by
  unfold fX2_finds_s19 at hr
  refine r_iload dX2_finds_19 4 rfl (Or.inl rfl) ?_
  refine r_aload_n dX2_finds_21 rfl 0 rfl (nl rfl) ?_
  refine r_iload_n dX2_finds_22 rfl 1 rfl (Or.inl rfl) ?_
  refine r_iconst dX2_finds_23 (by decide) ?_
  obtain ⟨r24, hg24, hr⟩ := bnd hr
  refine k_V (ci := 2) (o := a0) (T := TX2) (as := [(0, a1), (0, 2)]) (rest := [(0, l4)]) (X := (some (0, r24), h)) (oX2_part hg24) gX2_part rfl (by decide) rfl (wsl_31 _ (List.mem_of_getElem? (i := 11) rfl)) rfl dX2_finds_24 rfl ?_
  refine r_icmp_ge dX2_finds_27 (tgt := 146) (by decide) (fun hc => ?_) (fun hc => ?_)
  · have hr := ifn hr hc
    refine r_iconst dX2_finds_146 (by decide) ?_
    refine r_scast 0 (v := (0, 1)) (w := (2, 1)) rfl cz (fun _ => Or.inr rfl) (st' := [(2, 1)]) rfl ?_
    obtain rfl := Option.some.inj hr
    exact r_ret dX2_finds_147 rfl (Or.inr ⟨rfl, rfl⟩) (k0 _ hk) ⟨rfl, rfl⟩
  · have hr := ifp hr hc
    refine r_iload dX2_finds_30 4 rfl (Or.inl rfl) ?_
    refine r_iconst dX2_finds_32 (by decide) ?_
    refine r_icmp_ge dX2_finds_33 (tgt := 146) (by decide) (fun hc => ?_) (fun hc => ?_)
    · have hr := ifn hr hc
      refine r_iconst dX2_finds_146 (by decide) ?_
      refine r_scast 0 (v := (0, 1)) (w := (2, 1)) rfl cz (fun _ => Or.inr rfl) (st' := [(2, 1)]) rfl ?_
      obtain rfl := Option.some.inj hr
      exact r_ret dX2_finds_147 rfl (Or.inr ⟨rfl, rfl⟩) (k0 _ hk) ⟨rfl, rfl⟩
    · have hr := ifp hr hc
      refine r_bipush dX2_finds_36 (by decide) (by decide) ?_
      refine r_iload dX2_finds_38 4 rfl (Or.inl rfl) ?_
      refine r_iconst dX2_finds_40 (by decide) ?_
      refine r_imul dX2_finds_41 ?_
      refine r_iadd dX2_finds_42 ?_
      refine r_istore dX2_finds_43 (Or.inl rfl) (by decide) (lv' := [(5, (0, w32 (7 + (w32 (l4 * 3))))), (0, (12, a0)), (1, (0, a1)), (2, (13, a2)), (3, (0, a3)), (4, (0, l4))]) rfl ?_
      refine r_aload_n dX2_finds_45 rfl 3 rfl (nl rfl) ?_
      refine r_iload_n dX2_finds_46 rfl 4 rfl (Or.inl rfl) ?_
      refine r_aload_n dX2_finds_47 rfl 1 rfl (nl rfl) ?_
      refine r_iload_n dX2_finds_48 rfl 2 rfl (Or.inl rfl) ?_
      refine r_iload dX2_finds_49 0 rfl (Or.inl rfl) ?_
      obtain ⟨r51, hg51, hr⟩ := bnd hr
      refine k_V (ci := 2) (o := a0) (T := TX2) (as := [(0, a1), (0, w32 (7 + (w32 (l4 * 3))))]) (rest := [(0, a3), (13, a2)]) (X := (some (0, r51), h)) (oX2_part hg51) gX2_part rfl (by decide) rfl (wsl_31 _ (List.mem_of_getElem? (i := 11) rfl)) rfl dX2_finds_51 rfl ?_
      obtain ⟨r54, hg54, hr⟩ := bnd hr
      refine k_V (ci := 3) (o := a2) (T := TX3) (as := [(0, a3), (0, r51)]) (rest := []) (X := (some (0, r54), h)) (oX3_value hg54) gX3_value rfl (by decide) rfl (wsl_35 _ (List.mem_of_getElem? (i := 0) rfl)) rfl dX2_finds_54 rfl ?_
      refine r_istore dX2_finds_57 (Or.inl rfl) (by decide) (lv' := [(6, (0, r54)), (5, (0, w32 (7 + (w32 (l4 * 3))))), (0, (12, a0)), (1, (0, a1)), (2, (13, a2)), (3, (0, a3)), (4, (0, l4))]) rfl ?_
      refine r_aload_n dX2_finds_59 rfl 2 rfl (nl rfl) ?_
      refine r_iload_n dX2_finds_60 rfl 3 rfl (Or.inl rfl) ?_
      refine r_iload dX2_finds_61 1 rfl (Or.inl rfl) ?_
      refine r_iconst dX2_finds_63 (by decide) ?_
      refine r_iadd dX2_finds_64 ?_
      obtain ⟨r65, hg65, hr⟩ := bnd hr
      refine k_V (ci := 2) (o := a0) (T := TX2) (as := [(0, a1), (0, w32 ((w32 (7 + (w32 (l4 * 3)))) + 1))]) (rest := []) (X := (some (0, r65), h)) (oX2_part hg65) gX2_part rfl (by decide) rfl (wsl_31 _ (List.mem_of_getElem? (i := 11) rfl)) rfl dX2_finds_65 rfl ?_
      refine r_istore dX2_finds_68 (Or.inl rfl) (by decide) (lv' := [(7, (0, r65)), (6, (0, r54)), (5, (0, w32 (7 + (w32 (l4 * 3))))), (0, (12, a0)), (1, (0, a1)), (2, (13, a2)), (3, (0, a3)), (4, (0, l4))]) rfl ?_
      refine r_aload_n dX2_finds_70 rfl 3 rfl (nl rfl) ?_
      refine r_iload_n dX2_finds_71 rfl 4 rfl (Or.inl rfl) ?_
      refine r_iload dX2_finds_72 2 rfl (Or.inl rfl) ?_
      refine r_iconst dX2_finds_74 (by decide) ?_
      refine r_iadd dX2_finds_75 ?_
      obtain ⟨r76, hg76, hr⟩ := bnd hr
      refine k_V (ci := 2) (o := a0) (T := TX2) (as := [(0, a1), (0, w32 ((w32 (7 + (w32 (l4 * 3)))) + 2))]) (rest := []) (X := (some (0, r76), h)) (oX2_part hg76) gX2_part rfl (by decide) rfl (wsl_31 _ (List.mem_of_getElem? (i := 11) rfl)) rfl dX2_finds_76 rfl ?_
      refine r_istore dX2_finds_79 (Or.inl rfl) (by decide) (lv' := [(8, (0, r76)), (7, (0, r65)), (6, (0, r54)), (5, (0, w32 (7 + (w32 (l4 * 3))))), (0, (12, a0)), (1, (0, a1)), (2, (13, a2)), (3, (0, a3)), (4, (0, l4))]) rfl ?_
      refine r_iload dX2_finds_81 0 rfl (Or.inl rfl) ?_
      refine r_iconst dX2_finds_83 (by decide) ?_
      refine r_icmp_ne dX2_finds_84 (tgt := 108) (by decide) (fun hc => ?_) (fun hc => ?_)
      · have hr := ifn hr hc
        refine r_iload dX2_finds_108 2 rfl (Or.inl rfl) ?_
        refine r_iconst dX2_finds_110 (by decide) ?_
        refine r_icmp_eq dX2_finds_111 (tgt := 130) (by decide) (fun hc => ?_) (fun hc => ?_)
        · have hr := ifp hr hc
          refine r_sub [4, 5, 6, 7, 8] (lv' := [(0, (12, a0)), (1, (0, a1)), (2, (13, a2)), (3, (0, a3)), (4, (0, l4))]) rfl ?_
          exact oX2_finds_b130 (K := K) (fun r z => k0 r z) (fun _ z => k1 _ z) hr hk
        · have hr := ifn hr hc
          refine r_iload dX2_finds_114 2 rfl (Or.inl rfl) ?_
          refine r_iload dX2_finds_116 1 rfl (Or.inl rfl) ?_
          refine r_iload dX2_finds_118 0 rfl (Or.inl rfl) ?_
          obtain ⟨r120, hg120, hr⟩ := bnd hr
          refine k_SN (host := "FollowingRefs") (as := [(0, r54), (0, r65), (0, r76)]) (rest := []) (X := (some (2, r120), h)) (oX11_compares hg120) gX11_compares rfl (List.mem_of_getElem? (i := 17) rfl) rfl dX2_finds_120 rfl ?_
          refine r_scast 0 (v := (2, r120)) (w := (0, r120)) rfl zc hTz (st' := [(0, r120)]) rfl ?_
          refine r_if_eq dX2_finds_123 (tgt := 130) (by decide) (fun hc => ?_) (fun hc => ?_)
          · have hr := ifp hr hc
            refine r_sub [4, 5, 6, 7, 8] (lv' := [(0, (12, a0)), (1, (0, a1)), (2, (13, a2)), (3, (0, a3)), (4, (0, l4))]) rfl ?_
            exact oX2_finds_b130 (K := K) (fun r z => k0 r z) (fun _ z => k1 _ z) hr hk
          · have hr := ifn hr hc
            refine r_iconst dX2_finds_126 (by decide) ?_
            refine r_goto dX2_finds_127 (tgt := 131) (by decide) ?_
            refine r_sub [4, 5, 6, 7, 8] (lv' := [(0, (12, a0)), (1, (0, a1)), (2, (13, a2)), (3, (0, a3)), (4, (0, l4))]) rfl ?_
            refine r_scast 0 (v := (0, 1)) (w := (2, 1)) rfl cz (fun _ => Or.inr rfl) (st' := [(2, 1)]) rfl ?_
            exact oX2_finds_b131 (K := K) (fun r z => k0 r z) (fun _ z => k1 _ z) hr hk
      · have hr := ifp hr hc
        refine r_iload dX2_finds_87 1 rfl (Or.inl rfl) ?_
        refine r_bipush dX2_finds_89 (by decide) (by decide) ?_
        refine r_icmp_ne dX2_finds_91 (tgt := 104) (by decide) (fun hc => ?_) (fun hc => ?_)
        · have hr := ifn hr hc
          refine r_sub [4, 5, 6, 7, 8] (lv' := [(0, (12, a0)), (1, (0, a1)), (2, (13, a2)), (3, (0, a3)), (4, (0, l4))]) rfl ?_
          exact oX2_finds_b104 (K := K) (fun r z => k0 r z) (fun _ z => k1 _ z) hr hk
        · have hr := ifp hr hc
          refine r_iload dX2_finds_94 2 rfl (Or.inl rfl) ?_
          refine r_iconst dX2_finds_96 (by decide) ?_
          refine r_icmp_ne dX2_finds_97 (tgt := 104) (by decide) (fun hc => ?_) (fun hc => ?_)
          · have hr := ifn hr hc
            refine r_sub [4, 5, 6, 7, 8] (lv' := [(0, (12, a0)), (1, (0, a1)), (2, (13, a2)), (3, (0, a3)), (4, (0, l4))]) rfl ?_
            exact oX2_finds_b104 (K := K) (fun r z => k0 r z) (fun _ z => k1 _ z) hr hk
          · have hr := ifp hr hc
            refine r_iconst dX2_finds_100 (by decide) ?_
            refine r_goto dX2_finds_101 (tgt := 131) (by decide) ?_
            refine r_sub [4, 5, 6, 7, 8] (lv' := [(0, (12, a0)), (1, (0, a1)), (2, (13, a2)), (3, (0, a3)), (4, (0, l4))]) rfl ?_
            refine r_scast 0 (v := (0, 1)) (w := (2, 1)) rfl cz (fun _ => Or.inr rfl) (st' := [(2, 1)]) rfl ?_
            exact oX2_finds_b131 (K := K) (fun r z => k0 r z) (fun _ z => k1 _ z) hr hk
set_option maxRecDepth 100000 in
set_option maxHeartbeats 4000000 in
theorem oX2_finds_b0 {a0 a1 a2 a3 : Int} {K : Int → Prop} (k0 : ∀ r, K (r) → x = (some (2, r), h)) {r : Int} (hr : fX2_finds h a0 a1 a2 a3 = some r) (hk : K r) : Wq p l e R s m args below meth c D G A H0 true n0 M_X2_finds x 0 0 0 [(0, (12, a0)), (1, (0, a1)), (2, (13, a2)), (3, (0, a3))] [] h := by
  unfold fX2_finds at hr
  refine r_aload_n dX2_finds_0 rfl 2 rfl (nl rfl) ?_
  refine r_iload_n dX2_finds_1 rfl 3 rfl (Or.inl rfl) ?_
  obtain ⟨r2, hg2, hr⟩ := bnd hr
  refine k_V (ci := 3) (o := a2) (T := TX3) (as := [(0, a3)]) (rest := []) (X := (some (0, r2), h)) (oX3_tableAt hg2) gX3_tableAt rfl (by decide) rfl (wsl_34 _ (List.mem_of_getElem? (i := 23) rfl)) rfl dX2_finds_2 rfl ?_
  refine r_aload_n dX2_finds_5 rfl 0 rfl (nl rfl) ?_
  refine r_iload_n dX2_finds_6 rfl 1 rfl (Or.inl rfl) ?_
  refine r_iconst dX2_finds_7 (by decide) ?_
  obtain ⟨r8, hg8, hr⟩ := bnd hr
  refine k_V (ci := 2) (o := a0) (T := TX2) (as := [(0, a1), (0, 1)]) (rest := [(0, r2)]) (X := (some (0, r8), h)) (oX2_part hg8) gX2_part rfl (by decide) rfl (wsl_31 _ (List.mem_of_getElem? (i := 11) rfl)) rfl dX2_finds_8 rfl ?_
  refine r_icmp_eq dX2_finds_11 (tgt := 16) (by decide) (fun hc => ?_) (fun hc => ?_)
  · have hr := ifp hr hc
    refine r_iconst dX2_finds_16 (by decide) ?_
    refine r_istore dX2_finds_17 (Or.inl rfl) (by decide) (lv' := [(4, (0, 0)), (0, (12, a0)), (1, (0, a1)), (2, (13, a2)), (3, (0, a3))]) rfl ?_
    refine r_sub [1, 2, 3, 4, 0] (lv' := [(0, (12, a0)), (1, (0, a1)), (2, (13, a2)), (3, (0, a3)), (4, (0, 0))]) rfl ?_
    exact lp_ok (w := fun (q : Int) => Wq p l e R s m args below meth c D G A H0 true n0 M_X2_finds x 0 0 19 [(0, (12, a0)), (1, (0, a1)), (2, (13, a2)), (3, (0, a3)), (4, (0, q))] [] (h)) (K := K) (fun q r h1 h2 => oX2_finds_s19 (K := Sum.elim (fun (q : Int) => Wq p l e R s m args below meth c D G A H0 true n0 M_X2_finds x 0 0 19 [(0, (12, a0)), (1, (0, a1)), (2, (13, a2)), (3, (0, a3)), (4, (0, q))] [] (h)) (K)) (fun r z => k0 r z) (fun _ z => z) h1 h2) hr hk
  · have hr := ifn hr hc
    refine r_iconst dX2_finds_14 (by decide) ?_
    refine r_scast 0 (v := (0, 0)) (w := (2, 0)) rfl cz (fun _ => Or.inl rfl) (st' := [(2, 0)]) rfl ?_
    obtain rfl := Option.some.inj hr
    exact r_ret dX2_finds_15 rfl (Or.inr ⟨rfl, rfl⟩) (k0 _ hk) ⟨rfl, rfl⟩
end M_X2_finds
theorem oX2_finds {l : Launch} {D : va_G} {G : gG} {h : hH} {a0 a1 a2 a3 : Int} {r : Int} (hr : fX2_finds h a0 a1 a2 a3 = some r) : Ctr l D G true yX2_finds M_X2_finds [(12, a0), (0, a1), (13, a2), (0, a3)] h (some (2, r), h) :=
  Ctr_of (by decide) rfl (fun z => by cases z) (nl rfl) (fun {p e R s m args below meth c A H0} => by
    exact oX2_finds_b0 (K := fun z9 => z9 = r) (fun r9 z => by rw [z]) hr rfl)
/-! X1_wish -/
theorem dX1_wish_0 : decode cX1_wish 0 = .ok (.iload_n 2, 1) := by decide +kernel
theorem dX1_wish_1 : decode cX1_wish 1 = .ok (.iconst (-1), 1) := by decide +kernel
theorem dX1_wish_2 : decode cX1_wish 2 = .ok (.if_icmp .ne 5, 3) := by decide +kernel
theorem dX1_wish_5 : decode cX1_wish 5 = .ok (.iconst 1, 1) := by decide +kernel
theorem dX1_wish_6 : decode cX1_wish 6 = .ok (.ireturn, 1) := by decide +kernel
theorem dX1_wish_7 : decode cX1_wish 7 = .ok (.iload_n 1, 1) := by decide +kernel
theorem dX1_wish_8 : decode cX1_wish 8 = .ok (.iconst 4, 1) := by decide +kernel
theorem dX1_wish_9 : decode cX1_wish 9 = .ok (.imul, 1) := by decide +kernel
theorem dX1_wish_10 : decode cX1_wish 10 = .ok (.iload_n 2, 1) := by decide +kernel
theorem dX1_wish_11 : decode cX1_wish 11 = .ok (.iadd, 1) := by decide +kernel
theorem dX1_wish_12 : decode cX1_wish 12 = .ok (.istore 4, 2) := by decide +kernel
theorem dX1_wish_14 : decode cX1_wish 14 = .ok (.aload_n 0, 1) := by decide +kernel
theorem dX1_wish_15 : decode cX1_wish 15 = .ok (.getfield 38, 3) := by decide +kernel
theorem dX1_wish_18 : decode cX1_wish 18 = .ok (.iload 4, 2) := by decide +kernel
theorem dX1_wish_20 : decode cX1_wish 20 = .ok (.invokestatic 165, 3) := by decide +kernel
theorem dX1_wish_23 : decode cX1_wish 23 = .ok (.iconst 1, 1) := by decide +kernel
theorem dX1_wish_24 : decode cX1_wish 24 = .ok (.if_icmp .ne 22, 3) := by decide +kernel
theorem dX1_wish_27 : decode cX1_wish 27 = .ok (.aload_n 0, 1) := by decide +kernel
theorem dX1_wish_28 : decode cX1_wish 28 = .ok (.getfield 41, 3) := by decide +kernel
theorem dX1_wish_31 : decode cX1_wish 31 = .ok (.iload 4, 2) := by decide +kernel
theorem dX1_wish_33 : decode cX1_wish 33 = .ok (.invokestatic 165, 3) := by decide +kernel
theorem dX1_wish_36 : decode cX1_wish 36 = .ok (.iload_n 3, 1) := by decide +kernel
theorem dX1_wish_37 : decode cX1_wish 37 = .ok (.if_icmp .ne 7, 3) := by decide +kernel
theorem dX1_wish_40 : decode cX1_wish 40 = .ok (.iconst 1, 1) := by decide +kernel
theorem dX1_wish_41 : decode cX1_wish 41 = .ok (.goto 4, 3) := by decide +kernel
theorem dX1_wish_44 : decode cX1_wish 44 = .ok (.iconst 0, 1) := by decide +kernel
theorem dX1_wish_45 : decode cX1_wish 45 = .ok (.ireturn, 1) := by decide +kernel
theorem dX1_wish_46 : decode cX1_wish 46 = .ok (.aload_n 0, 1) := by decide +kernel
theorem dX1_wish_47 : decode cX1_wish 47 = .ok (.getfield 38, 3) := by decide +kernel
theorem dX1_wish_50 : decode cX1_wish 50 = .ok (.iload 4, 2) := by decide +kernel
theorem dX1_wish_52 : decode cX1_wish 52 = .ok (.iconst 1, 1) := by decide +kernel
theorem dX1_wish_53 : decode cX1_wish 53 = .ok (.invokestatic 150, 3) := by decide +kernel
theorem dX1_wish_56 : decode cX1_wish 56 = .ok (.aload_n 0, 1) := by decide +kernel
theorem dX1_wish_57 : decode cX1_wish 57 = .ok (.getfield 41, 3) := by decide +kernel
theorem dX1_wish_60 : decode cX1_wish 60 = .ok (.iload 4, 2) := by decide +kernel
theorem dX1_wish_62 : decode cX1_wish 62 = .ok (.iload_n 3, 1) := by decide +kernel
theorem dX1_wish_63 : decode cX1_wish 63 = .ok (.invokestatic 150, 3) := by decide +kernel
theorem dX1_wish_66 : decode cX1_wish 66 = .ok (.aload_n 0, 1) := by decide +kernel
theorem dX1_wish_67 : decode cX1_wish 67 = .ok (.iconst 1, 1) := by decide +kernel
theorem dX1_wish_68 : decode cX1_wish 68 = .ok (.putfield 162, 3) := by decide +kernel
theorem dX1_wish_71 : decode cX1_wish 71 = .ok (.iconst 1, 1) := by decide +kernel
theorem dX1_wish_72 : decode cX1_wish 72 = .ok (.ireturn, 1) := by decide +kernel
abbrev M_X1_wish : mM := (cX1_wish, 5, RX1, some .boolean, false, 1, 22, 0, 0)
theorem gX1_wish : cI yX1_wish M_X1_wish 3 := ⟨(wsl_35 _ (List.mem_of_getElem? (i := 4) rfl)), (wsl_35 _ (List.mem_of_getElem? (i := 5) rfl)), (wsl_2 _ (List.mem_of_getElem? (i := 19) rfl)), (wsl_35 _ (List.mem_of_getElem? (i := 6) rfl)), by decide +kernel⟩
noncomputable def fX1_wish (h : hH) (a0 a1 a2 a3 : Int) : Option (Int × hH) :=
  if a2 = -1 then
    some (1, h)
  else
    (fX11_at h (h a0 15) (w32 ((w32 (a1 * 4)) + a2))).bind fun r20 =>
    if r20 = 1 then
      (fX11_at h (h a0 16) (w32 ((w32 (a1 * 4)) + a2))).bind fun r33 =>
      if r33 = a3 then
        some (1, h)
      else
        some (0, h)
    else
      (fX11_put h (h a0 15) (w32 ((w32 (a1 * 4)) + a2)) 1).bind fun h53 =>
      (fX11_put h53 (h53 a0 16) (w32 ((w32 (a1 * 4)) + a2)) a3).bind fun h63 =>
      (pput h63 a0 10 1).bind fun h68 =>
      some (1, h68)
section M_X1_wish
variable {p : Program} {l : Launch} {e : Env} {R : Room} {s : State} {m : MethodId} {args : Array Value} {below : List Frame} {meth : Method} {c : Code} {D : va_G} {G : gG} {A : Nat → Prop} {H0 : Heap} {n0 : Int} {x : Option vV × hH} {h : hH}
set_option maxRecDepth 100000 in
set_option maxHeartbeats 4000000 in
theorem oX1_wish_b0 {a0 a1 a2 a3 : Int} {K : Int × hH → Prop} (k0 : ∀ r, K (r) → x = (some (2, r.1), r.2)) {r : Int × hH} (hr : fX1_wish h a0 a1 a2 a3 = some r) (hk : K r) : Wq p l e R s m args below meth c D G A H0 true n0 M_X1_wish x 0 0 0 [(0, (11, a0)), (1, (0, a1)), (2, (0, a2)), (3, (0, a3))] [] h := by
  unfold fX1_wish at hr
  refine r_iload_n dX1_wish_0 rfl 2 rfl (Or.inl rfl) ?_
  refine r_iconst dX1_wish_1 (by decide) ?_
  refine r_icmp_ne dX1_wish_2 (tgt := 7) (by decide) (fun hc => ?_) (fun hc => ?_)
  · have hr := ifn hr hc
    refine r_iload_n dX1_wish_7 rfl 1 rfl (Or.inl rfl) ?_
    refine r_iconst dX1_wish_8 (by decide) ?_
    refine r_imul dX1_wish_9 ?_
    refine r_iload_n dX1_wish_10 rfl 2 rfl (Or.inl rfl) ?_
    refine r_iadd dX1_wish_11 ?_
    refine r_istore dX1_wish_12 (Or.inl rfl) (by decide) (lv' := [(4, (0, w32 ((w32 (a1 * 4)) + a2))), (0, (11, a0)), (1, (0, a1)), (2, (0, a2)), (3, (0, a3))]) rfl ?_
    refine r_aload_n dX1_wish_14 rfl 1 rfl (nl rfl) ?_
    refine r_get 1 15 (o := a0) (w := (50, h a0 15)) (T := TX1) (ref := "FollowingRefs$Judge") rfl (by decide) rfl (by decide) inlX1 (wsl_6 _ (List.mem_of_getElem? (i := 6) rfl)) rfl dX1_wish_15 rfl ?_
    refine r_iload dX1_wish_18 0 rfl (Or.inl rfl) ?_
    obtain ⟨r20, hg20, hr⟩ := bnd hr
    refine k_SN (host := "FollowingRefs") (as := [(50, h a0 15), (0, w32 ((w32 (a1 * 4)) + a2))]) (rest := []) (X := (some (0, r20), h)) (oX11_at hg20) gX11_at rfl (List.mem_of_getElem? (i := 6) rfl) rfl dX1_wish_20 rfl ?_
    refine r_iconst dX1_wish_23 (by decide) ?_
    refine r_icmp_ne dX1_wish_24 (tgt := 46) (by decide) (fun hc => ?_) (fun hc => ?_)
    · have hr := ifn hr hc
      refine r_aload_n dX1_wish_46 rfl 1 rfl (nl rfl) ?_
      refine r_get 1 15 (o := a0) (w := (50, h a0 15)) (T := TX1) (ref := "FollowingRefs$Judge") rfl (by decide) rfl (by decide) inlX1 (wsl_6 _ (List.mem_of_getElem? (i := 6) rfl)) rfl dX1_wish_47 rfl ?_
      refine r_iload dX1_wish_50 0 rfl (Or.inl rfl) ?_
      refine r_iconst dX1_wish_52 (by decide) ?_
      obtain ⟨h53, hg53, hr⟩ := bnd hr
      refine k_SN (host := "FollowingRefs") (as := [(50, h a0 15), (0, w32 ((w32 (a1 * 4)) + a2)), (0, 1)]) (rest := []) (X := (none, h53)) (oX11_put hg53) gX11_put rfl (List.mem_of_getElem? (i := 5) rfl) rfl dX1_wish_53 rfl ?_
      refine r_aload_n dX1_wish_56 rfl 1 rfl (nl rfl) ?_
      refine r_get 1 16 (o := a0) (w := (50, h53 a0 16)) (T := TX1) (ref := "FollowingRefs$Judge") rfl (by decide) rfl (by decide) inlX1 (wsl_6 _ (List.mem_of_getElem? (i := 7) rfl)) rfl dX1_wish_57 rfl ?_
      refine r_iload dX1_wish_60 0 rfl (Or.inl rfl) ?_
      refine r_iload_n dX1_wish_62 rfl 4 rfl (Or.inl rfl) ?_
      obtain ⟨h63, hg63, hr⟩ := bnd hr
      refine k_SN (host := "FollowingRefs") (as := [(50, h53 a0 16), (0, w32 ((w32 (a1 * 4)) + a2)), (0, a3)]) (rest := []) (X := (none, h63)) (oX11_put hg63) gX11_put rfl (List.mem_of_getElem? (i := 5) rfl) rfl dX1_wish_63 rfl ?_
      refine r_aload_n dX1_wish_66 rfl 1 rfl (nl rfl) ?_
      refine r_iconst dX1_wish_67 (by decide) ?_
      refine r_scast 0 (v := (0, 1)) (w := (2, 1)) rfl cz (fun _ => Or.inr rfl) (st' := [(2, 1), (11, a0)]) rfl ?_
      obtain ⟨h68, hg68, hr⟩ := bnd hr
      refine r_put' 1 10 (t := 2) (ref := "FollowingRefs$Judge") hg68 rfl tyX1 tyX1_ok nmX1 rfl (by decide) rfl (by decide) inlX1 (wsl_35 _ (List.mem_of_getElem? (i := 7) rfl)) rfl rfl (by decide +kernel) (by decide) rfl (Or.inr (Or.inr (Or.inl ⟨rfl, rfl⟩))) dX1_wish_68 ?_
      refine r_iconst dX1_wish_71 (by decide) ?_
      refine r_scast 0 (v := (0, 1)) (w := (2, 1)) rfl cz (fun _ => Or.inr rfl) (st' := [(2, 1)]) rfl ?_
      obtain rfl := Option.some.inj hr
      exact r_ret dX1_wish_72 rfl (Or.inr ⟨rfl, rfl⟩) (k0 _ hk) ⟨rfl, rfl⟩
    · have hr := ifp hr hc
      refine r_aload_n dX1_wish_27 rfl 1 rfl (nl rfl) ?_
      refine r_get 1 16 (o := a0) (w := (50, h a0 16)) (T := TX1) (ref := "FollowingRefs$Judge") rfl (by decide) rfl (by decide) inlX1 (wsl_6 _ (List.mem_of_getElem? (i := 7) rfl)) rfl dX1_wish_28 rfl ?_
      refine r_iload dX1_wish_31 0 rfl (Or.inl rfl) ?_
      obtain ⟨r33, hg33, hr⟩ := bnd hr
      refine k_SN (host := "FollowingRefs") (as := [(50, h a0 16), (0, w32 ((w32 (a1 * 4)) + a2))]) (rest := []) (X := (some (0, r33), h)) (oX11_at hg33) gX11_at rfl (List.mem_of_getElem? (i := 6) rfl) rfl dX1_wish_33 rfl ?_
      refine r_iload_n dX1_wish_36 rfl 4 rfl (Or.inl rfl) ?_
      refine r_icmp_ne dX1_wish_37 (tgt := 44) (by decide) (fun hc => ?_) (fun hc => ?_)
      · have hr := ifn hr hc
        refine r_iconst dX1_wish_44 (by decide) ?_
        refine r_scast 0 (v := (0, 0)) (w := (2, 0)) rfl cz (fun _ => Or.inl rfl) (st' := [(2, 0)]) rfl ?_
        obtain rfl := Option.some.inj hr
        exact r_ret dX1_wish_45 rfl (Or.inr ⟨rfl, rfl⟩) (k0 _ hk) ⟨rfl, rfl⟩
      · have hr := ifp hr hc
        refine r_iconst dX1_wish_40 (by decide) ?_
        refine r_goto dX1_wish_41 (tgt := 45) (by decide) ?_
        refine r_scast 0 (v := (0, 1)) (w := (2, 1)) rfl cz (fun _ => Or.inr rfl) (st' := [(2, 1)]) rfl ?_
        obtain rfl := Option.some.inj hr
        exact r_ret dX1_wish_45 rfl (Or.inr ⟨rfl, rfl⟩) (k0 _ hk) ⟨rfl, rfl⟩
  · have hr := ifp hr hc
    refine r_iconst dX1_wish_5 (by decide) ?_
    refine r_scast 0 (v := (0, 1)) (w := (2, 1)) rfl cz (fun _ => Or.inr rfl) (st' := [(2, 1)]) rfl ?_
    obtain rfl := Option.some.inj hr
    exact r_ret dX1_wish_6 rfl (Or.inr ⟨rfl, rfl⟩) (k0 _ hk) ⟨rfl, rfl⟩
end M_X1_wish
theorem oX1_wish {l : Launch} {D : va_G} {G : gG} {h : hH} {a0 a1 a2 a3 : Int} {r : Int × hH} (hr : fX1_wish h a0 a1 a2 a3 = some r) : Ctr l D G true yX1_wish M_X1_wish [(11, a0), (0, a1), (0, a2), (0, a3)] h (some (2, r.1), r.2) :=
  Ctr_of (by decide) rfl (fun z => by cases z) (nl rfl) (fun {p e R s m args below meth c A H0} => by
    exact oX1_wish_b0 (K := fun z9 => z9 = r) (fun r9 z => by rw [z]) hr rfl)
/-! X1_findRows -/
theorem dX1_findRows_0 : decode cX1_findRows 0 = .ok (.aload_n 1, 1) := by decide +kernel
theorem dX1_findRows_1 : decode cX1_findRows 1 = .ok (.iload_n 2, 1) := by decide +kernel
theorem dX1_findRows_2 : decode cX1_findRows 2 = .ok (.iconst 0, 1) := by decide +kernel
theorem dX1_findRows_3 : decode cX1_findRows 3 = .ok (.invokevirtual 55, 3) := by decide +kernel
theorem dX1_findRows_6 : decode cX1_findRows 6 = .ok (.sipush 142, 3) := by decide +kernel
theorem dX1_findRows_9 : decode cX1_findRows 9 = .ok (.if_icmp .ne 7, 3) := by decide +kernel
theorem dX1_findRows_12 : decode cX1_findRows 12 = .ok (.iconst 1, 1) := by decide +kernel
theorem dX1_findRows_13 : decode cX1_findRows 13 = .ok (.goto 4, 3) := by decide +kernel
theorem dX1_findRows_16 : decode cX1_findRows 16 = .ok (.iconst 0, 1) := by decide +kernel
theorem dX1_findRows_17 : decode cX1_findRows 17 = .ok (.istore_n 3, 1) := by decide +kernel
theorem dX1_findRows_18 : decode cX1_findRows 18 = .ok (.iconst 0, 1) := by decide +kernel
theorem dX1_findRows_19 : decode cX1_findRows 19 = .ok (.istore 4, 2) := by decide +kernel
theorem dX1_findRows_21 : decode cX1_findRows 21 = .ok (.iload 4, 2) := by decide +kernel
theorem dX1_findRows_23 : decode cX1_findRows 23 = .ok (.aload_n 0, 1) := by decide +kernel
theorem dX1_findRows_24 : decode cX1_findRows 24 = .ok (.getfield 48, 3) := by decide +kernel
theorem dX1_findRows_27 : decode cX1_findRows 27 = .ok (.getfield 124, 3) := by decide +kernel
theorem dX1_findRows_30 : decode cX1_findRows 30 = .ok (.getfield 138, 3) := by decide +kernel
theorem dX1_findRows_33 : decode cX1_findRows 33 = .ok (.if_icmp .ge 95, 3) := by decide +kernel
theorem dX1_findRows_36 : decode cX1_findRows 36 = .ok (.aload_n 1, 1) := by decide +kernel
theorem dX1_findRows_37 : decode cX1_findRows 37 = .ok (.iload_n 2, 1) := by decide +kernel
theorem dX1_findRows_38 : decode cX1_findRows 38 = .ok (.aload_n 0, 1) := by decide +kernel
theorem dX1_findRows_39 : decode cX1_findRows 39 = .ok (.getfield 48, 3) := by decide +kernel
theorem dX1_findRows_42 : decode cX1_findRows 42 = .ok (.getfield 124, 3) := by decide +kernel
theorem dX1_findRows_45 : decode cX1_findRows 45 = .ok (.iload 4, 2) := by decide +kernel
theorem dX1_findRows_47 : decode cX1_findRows 47 = .ok (.invokevirtual 154, 3) := by decide +kernel
theorem dX1_findRows_50 : decode cX1_findRows 50 = .ok (.ifCond .ne 6, 3) := by decide +kernel
theorem dX1_findRows_53 : decode cX1_findRows 53 = .ok (.goto 69, 3) := by decide +kernel
theorem dX1_findRows_56 : decode cX1_findRows 56 = .ok (.aload_n 0, 1) := by decide +kernel
theorem dX1_findRows_57 : decode cX1_findRows 57 = .ok (.dup, 1) := by decide +kernel
theorem dX1_findRows_58 : decode cX1_findRows 58 = .ok (.getfield 105, 3) := by decide +kernel
theorem dX1_findRows_61 : decode cX1_findRows 61 = .ok (.iconst 1, 1) := by decide +kernel
theorem dX1_findRows_62 : decode cX1_findRows 62 = .ok (.iadd, 1) := by decide +kernel
theorem dX1_findRows_63 : decode cX1_findRows 63 = .ok (.putfield 105, 3) := by decide +kernel
theorem dX1_findRows_66 : decode cX1_findRows 66 = .ok (.iload_n 3, 1) := by decide +kernel
theorem dX1_findRows_67 : decode cX1_findRows 67 = .ok (.ifCond .eq 16, 3) := by decide +kernel
theorem dX1_findRows_70 : decode cX1_findRows 70 = .ok (.aload_n 0, 1) := by decide +kernel
theorem dX1_findRows_71 : decode cX1_findRows 71 = .ok (.getfield 32, 3) := by decide +kernel
theorem dX1_findRows_74 : decode cX1_findRows 74 = .ok (.iload 4, 2) := by decide +kernel
theorem dX1_findRows_76 : decode cX1_findRows 76 = .ok (.iconst 0, 1) := by decide +kernel
theorem dX1_findRows_77 : decode cX1_findRows 77 = .ok (.invokestatic 150, 3) := by decide +kernel
theorem dX1_findRows_80 : decode cX1_findRows 80 = .ok (.goto 42, 3) := by decide +kernel
theorem dX1_findRows_83 : decode cX1_findRows 83 = .ok (.aload_n 0, 1) := by decide +kernel
theorem dX1_findRows_84 : decode cX1_findRows 84 = .ok (.iload 4, 2) := by decide +kernel
theorem dX1_findRows_86 : decode cX1_findRows 86 = .ok (.aload_n 1, 1) := by decide +kernel
theorem dX1_findRows_87 : decode cX1_findRows 87 = .ok (.iload_n 2, 1) := by decide +kernel
theorem dX1_findRows_88 : decode cX1_findRows 88 = .ok (.iconst 3, 1) := by decide +kernel
theorem dX1_findRows_89 : decode cX1_findRows 89 = .ok (.invokevirtual 55, 3) := by decide +kernel
theorem dX1_findRows_92 : decode cX1_findRows 92 = .ok (.aload_n 1, 1) := by decide +kernel
theorem dX1_findRows_93 : decode cX1_findRows 93 = .ok (.iload_n 2, 1) := by decide +kernel
theorem dX1_findRows_94 : decode cX1_findRows 94 = .ok (.iconst 4, 1) := by decide +kernel
theorem dX1_findRows_95 : decode cX1_findRows 95 = .ok (.invokevirtual 55, 3) := by decide +kernel
theorem dX1_findRows_98 : decode cX1_findRows 98 = .ok (.invokevirtual 158, 3) := by decide +kernel
theorem dX1_findRows_101 : decode cX1_findRows 101 = .ok (.pop, 1) := by decide +kernel
theorem dX1_findRows_102 : decode cX1_findRows 102 = .ok (.aload_n 0, 1) := by decide +kernel
theorem dX1_findRows_103 : decode cX1_findRows 103 = .ok (.iload 4, 2) := by decide +kernel
theorem dX1_findRows_105 : decode cX1_findRows 105 = .ok (.aload_n 1, 1) := by decide +kernel
theorem dX1_findRows_106 : decode cX1_findRows 106 = .ok (.iload_n 2, 1) := by decide +kernel
theorem dX1_findRows_107 : decode cX1_findRows 107 = .ok (.iconst 5, 1) := by decide +kernel
theorem dX1_findRows_108 : decode cX1_findRows 108 = .ok (.invokevirtual 55, 3) := by decide +kernel
theorem dX1_findRows_111 : decode cX1_findRows 111 = .ok (.aload_n 1, 1) := by decide +kernel
theorem dX1_findRows_112 : decode cX1_findRows 112 = .ok (.iload_n 2, 1) := by decide +kernel
theorem dX1_findRows_113 : decode cX1_findRows 113 = .ok (.bipush 6, 2) := by decide +kernel
theorem dX1_findRows_115 : decode cX1_findRows 115 = .ok (.invokevirtual 55, 3) := by decide +kernel
theorem dX1_findRows_118 : decode cX1_findRows 118 = .ok (.invokevirtual 158, 3) := by decide +kernel
theorem dX1_findRows_121 : decode cX1_findRows 121 = .ok (.pop, 1) := by decide +kernel
theorem dX1_findRows_122 : decode cX1_findRows 122 = .ok (.iinc 4 1, 3) := by decide +kernel
theorem dX1_findRows_125 : decode cX1_findRows 125 = .ok (.goto (-104), 3) := by decide +kernel
theorem dX1_findRows_128 : decode cX1_findRows 128 = .ok (.return_, 1) := by decide +kernel
abbrev M_X1_findRows : mM := (cX1_findRows, 5, RX1, none, false, 3, 72, 0, 0)
theorem gX1_findRows : cI yX1_findRows M_X1_findRows 2 := ⟨(wsl_34 _ (List.mem_of_getElem? (i := 16) rfl)), (wsl_34 _ (List.mem_of_getElem? (i := 17) rfl)), (wsl_2 _ (List.mem_of_getElem? (i := 19) rfl)), (wsl_34 _ (List.mem_of_getElem? (i := 18) rfl)), by decide +kernel⟩
noncomputable def fX1_findRows_s21 (h0 : hH) (a0 a1 a2 l3 : Int) : hH × Int → Option ((hH × Int) ⊕ (hH)) := fun (h, l4) =>
  if l4 < h (h (h a0 1) 0) 0 then
    (fX2_finds h a1 a2 (h (h a0 1) 0) l4).bind fun r47 =>
    if r47 = 0 then
      some (.inl (h, w32 (l4 + 1)))
    else
      (pput h a0 6 (w32 ((h a0 6) + 1))).bind fun h63 =>
      if l3 = 0 then
        (fX2_part h63 a1 a2 3).bind fun r89 =>
        (fX2_part h63 a1 a2 4).bind fun r95 =>
        (fX1_wish h63 a0 l4 r89 r95).bind fun q98 =>
        (fX2_part q98.2 a1 a2 5).bind fun r108 =>
        (fX2_part q98.2 a1 a2 6).bind fun r115 =>
        (fX1_wish q98.2 a0 l4 r108 r115).bind fun q118 =>
        some (.inl (q118.2, w32 (l4 + 1)))
      else
        (fX11_put h63 (h63 a0 13) l4 0).bind fun h77 =>
        some (.inl (h77, w32 (l4 + 1)))
  else
    some (.inr (h))
noncomputable def fX1_findRows_b17 (h : hH) (a0 a1 a2 s0 : Int) : Option (hH) :=
  lpO (fX1_findRows_s21 h a0 a1 a2 s0) (h, 0)
noncomputable def fX1_findRows (h : hH) (a0 a1 a2 : Int) : Option (hH) :=
  (fX2_part h a1 a2 0).bind fun r3 =>
  if r3 = 142 then
    fX1_findRows_b17 h a0 a1 a2 1
  else
    fX1_findRows_b17 h a0 a1 a2 0
section M_X1_findRows
variable {p : Program} {l : Launch} {e : Env} {R : Room} {s : State} {m : MethodId} {args : Array Value} {below : List Frame} {meth : Method} {c : Code} {D : va_G} {G : gG} {A : Nat → Prop} {H0 : Heap} {n0 : Int} {x : Option vV × hH} {h : hH}
set_option maxRecDepth 100000 in
set_option maxHeartbeats 4000000 in
theorem oX1_findRows_s21 {h0 : hH} {a0 a1 a2 l3 l4 : Int} {K : (hH × Int) ⊕ (hH) → Prop} (k0 : ∀ r, K (.inr (r)) → x = (none, r)) (k1 : ∀ (h : hH) (l4 : Int), K (.inl (h, l4)) → Wq p l e R s m args below meth c D G A H0 true n0 M_X1_findRows x 0 0 21 [(0, (11, a0)), (1, (12, a1)), (2, (0, a2)), (3, (2, l3)), (4, (0, l4))] [] h) {r : (hH × Int) ⊕ (hH)} (hr : fX1_findRows_s21 h0 a0 a1 a2 l3 (h, l4) = some r) (hk : K r) : Wq p l e R s m args below meth c D G A H0 true n0 M_X1_findRows x 0 0 21 [(0, (11, a0)), (1, (12, a1)), (2, (0, a2)), (3, (2, l3)), (4, (0, l4))] [] h := by
  unfold fX1_findRows_s21 at hr
  refine r_iload dX1_findRows_21 4 rfl (Or.inl rfl) ?_
  refine r_aload_n dX1_findRows_23 rfl 0 rfl (nl rfl) ?_
  refine r_get 1 1 (o := a0) (w := (18, h a0 1)) (T := TX1) (ref := "FollowingRefs$Judge") rfl (by decide) rfl (by decide) inlX1 (wsl_6 _ (List.mem_of_getElem? (i := 9) rfl)) rfl dX1_findRows_24 rfl ?_
  refine r_get 8 0 (o := h a0 1) (w := (13, h (h a0 1) 0)) (T := TX8) (ref := "FollowingRefs$State") rfl (by decide) rfl (by decide) inlX8 (wsl_32 _ (List.mem_of_getElem? (i := 22) rfl)) rfl dX1_findRows_27 rfl ?_
  refine r_get 3 0 (o := h (h a0 1) 0) (w := (0, h (h (h a0 1) 0) 0)) (T := TX3) (ref := "FollowingRefs$Rows") rfl (by decide) rfl (by decide) inlX3 (wsl_33 _ (List.mem_of_getElem? (i := 20) rfl)) rfl dX1_findRows_30 rfl ?_
  refine r_icmp_ge dX1_findRows_33 (tgt := 128) (by decide) (fun hc => ?_) (fun hc => ?_)
  · have hr := ifn hr hc
    obtain rfl := Option.some.inj hr
    exact r_vret dX1_findRows_128 rfl (k0 _ hk) ⟨rfl, rfl⟩
  · have hr := ifp hr hc
    refine r_aload_n dX1_findRows_36 rfl 1 rfl (nl rfl) ?_
    refine r_iload_n dX1_findRows_37 rfl 2 rfl (Or.inl rfl) ?_
    refine r_aload_n dX1_findRows_38 rfl 0 rfl (nl rfl) ?_
    refine r_get 1 1 (o := a0) (w := (18, h a0 1)) (T := TX1) (ref := "FollowingRefs$Judge") rfl (by decide) rfl (by decide) inlX1 (wsl_6 _ (List.mem_of_getElem? (i := 9) rfl)) rfl dX1_findRows_39 rfl ?_
    refine r_get 8 0 (o := h a0 1) (w := (13, h (h a0 1) 0)) (T := TX8) (ref := "FollowingRefs$State") rfl (by decide) rfl (by decide) inlX8 (wsl_32 _ (List.mem_of_getElem? (i := 22) rfl)) rfl dX1_findRows_42 rfl ?_
    refine r_iload dX1_findRows_45 4 rfl (Or.inl rfl) ?_
    obtain ⟨r47, hg47, hr⟩ := bnd hr
    refine k_V (ci := 2) (o := a1) (T := TX2) (as := [(0, a2), (13, h (h a0 1) 0), (0, l4)]) (rest := []) (X := (some (2, r47), h)) (oX2_finds hg47) gX2_finds rfl (by decide) rfl (wsl_34 _ (List.mem_of_getElem? (i := 19) rfl)) rfl dX1_findRows_47 rfl ?_
    refine r_scast 0 (v := (2, r47)) (w := (0, r47)) rfl zc hTz (st' := [(0, r47)]) rfl ?_
    refine r_if_ne dX1_findRows_50 (tgt := 56) (by decide) (fun hc => ?_) (fun hc => ?_)
    · have hr := ifn hr hc
      refine r_aload_n dX1_findRows_56 rfl 0 rfl (nl rfl) ?_
      refine r_dup dX1_findRows_57 (Nat.ne_of_beq_eq_false rfl) ?_
      refine r_get 1 6 (o := a0) (w := (0, h a0 6)) (T := TX1) (ref := "FollowingRefs$Judge") rfl (by decide) rfl (by decide) inlX1 (wsl_32 _ (List.mem_of_getElem? (i := 7) rfl)) rfl dX1_findRows_58 rfl ?_
      refine r_iconst dX1_findRows_61 (by decide) ?_
      refine r_iadd dX1_findRows_62 ?_
      obtain ⟨h63, hg63, hr⟩ := bnd hr
      refine r_put' 1 6 (t := 0) (ref := "FollowingRefs$Judge") hg63 rfl tyX1 tyX1_ok nmX1 rfl (by decide) rfl (by decide) inlX1 (wsl_32 _ (List.mem_of_getElem? (i := 7) rfl)) rfl rfl (by decide +kernel) (by decide) rfl (Or.inl ⟨rfl, rfl⟩) dX1_findRows_63 ?_
      refine r_iload_n dX1_findRows_66 rfl 3 rfl (Or.inr rfl) ?_
      refine r_scast 0 (v := (2, l3)) (w := (0, l3)) rfl zc hTz (st' := [(0, l3)]) rfl ?_
      refine r_if_eq dX1_findRows_67 (tgt := 83) (by decide) (fun hc => ?_) (fun hc => ?_)
      · have hr := ifp hr hc
        refine r_aload_n dX1_findRows_83 rfl 0 rfl (nl rfl) ?_
        refine r_iload dX1_findRows_84 4 rfl (Or.inl rfl) ?_
        refine r_aload_n dX1_findRows_86 rfl 1 rfl (nl rfl) ?_
        refine r_iload_n dX1_findRows_87 rfl 2 rfl (Or.inl rfl) ?_
        refine r_iconst dX1_findRows_88 (by decide) ?_
        obtain ⟨r89, hg89, hr⟩ := bnd hr
        refine k_V (ci := 2) (o := a1) (T := TX2) (as := [(0, a2), (0, 3)]) (rest := [(0, l4), (11, a0)]) (X := (some (0, r89), h63)) (oX2_part hg89) gX2_part rfl (by decide) rfl (wsl_32 _ (List.mem_of_getElem? (i := 17) rfl)) rfl dX1_findRows_89 rfl ?_
        refine r_aload_n dX1_findRows_92 rfl 1 rfl (nl rfl) ?_
        refine r_iload_n dX1_findRows_93 rfl 2 rfl (Or.inl rfl) ?_
        refine r_iconst dX1_findRows_94 (by decide) ?_
        obtain ⟨r95, hg95, hr⟩ := bnd hr
        refine k_V (ci := 2) (o := a1) (T := TX2) (as := [(0, a2), (0, 4)]) (rest := [(0, r89), (0, l4), (11, a0)]) (X := (some (0, r95), h63)) (oX2_part hg95) gX2_part rfl (by decide) rfl (wsl_32 _ (List.mem_of_getElem? (i := 17) rfl)) rfl dX1_findRows_95 rfl ?_
        obtain ⟨q98, hg98, hr⟩ := bnd hr
        refine k_V (ci := 1) (o := a0) (T := TX1) (as := [(0, l4), (0, r89), (0, r95)]) (rest := []) (X := (some (2, q98.1), q98.2)) (oX1_wish hg98) gX1_wish rfl (by decide) rfl (wsl_35 _ (List.mem_of_getElem? (i := 3) rfl)) rfl dX1_findRows_98 rfl ?_
        refine r_pop dX1_findRows_101 (Nat.ne_of_beq_eq_false rfl) ?_
        refine r_aload_n dX1_findRows_102 rfl 0 rfl (nl rfl) ?_
        refine r_iload dX1_findRows_103 4 rfl (Or.inl rfl) ?_
        refine r_aload_n dX1_findRows_105 rfl 1 rfl (nl rfl) ?_
        refine r_iload_n dX1_findRows_106 rfl 2 rfl (Or.inl rfl) ?_
        refine r_iconst dX1_findRows_107 (by decide) ?_
        obtain ⟨r108, hg108, hr⟩ := bnd hr
        refine k_V (ci := 2) (o := a1) (T := TX2) (as := [(0, a2), (0, 5)]) (rest := [(0, l4), (11, a0)]) (X := (some (0, r108), q98.2)) (oX2_part hg108) gX2_part rfl (by decide) rfl (wsl_32 _ (List.mem_of_getElem? (i := 17) rfl)) rfl dX1_findRows_108 rfl ?_
        refine r_aload_n dX1_findRows_111 rfl 1 rfl (nl rfl) ?_
        refine r_iload_n dX1_findRows_112 rfl 2 rfl (Or.inl rfl) ?_
        refine r_bipush dX1_findRows_113 (by decide) (by decide) ?_
        obtain ⟨r115, hg115, hr⟩ := bnd hr
        refine k_V (ci := 2) (o := a1) (T := TX2) (as := [(0, a2), (0, 6)]) (rest := [(0, r108), (0, l4), (11, a0)]) (X := (some (0, r115), q98.2)) (oX2_part hg115) gX2_part rfl (by decide) rfl (wsl_32 _ (List.mem_of_getElem? (i := 17) rfl)) rfl dX1_findRows_115 rfl ?_
        obtain ⟨q118, hg118, hr⟩ := bnd hr
        refine k_V (ci := 1) (o := a0) (T := TX1) (as := [(0, l4), (0, r108), (0, r115)]) (rest := []) (X := (some (2, q118.1), q118.2)) (oX1_wish hg118) gX1_wish rfl (by decide) rfl (wsl_35 _ (List.mem_of_getElem? (i := 3) rfl)) rfl dX1_findRows_118 rfl ?_
        refine r_pop dX1_findRows_121 (Nat.ne_of_beq_eq_false rfl) ?_
        refine r_iinc (k := 4) (v := l4) dX1_findRows_122 rfl (by decide) (lv' := [(4, (0, w32 (l4 + 1))), (0, (11, a0)), (1, (12, a1)), (2, (0, a2)), (3, (2, l3))]) rfl ?_
        refine r_goto dX1_findRows_125 (tgt := 21) (by decide) ?_
        refine r_sub [1, 2, 3, 4, 0] (lv' := [(0, (11, a0)), (1, (12, a1)), (2, (0, a2)), (3, (2, l3)), (4, (0, w32 (l4 + 1)))]) rfl ?_
        obtain rfl := Option.some.inj hr
        exact k1 _ _ hk
      · have hr := ifn hr hc
        refine r_aload_n dX1_findRows_70 rfl 0 rfl (nl rfl) ?_
        refine r_get 1 13 (o := a0) (w := (50, h63 a0 13)) (T := TX1) (ref := "FollowingRefs$Judge") rfl (by decide) rfl (by decide) inlX1 (wsl_6 _ (List.mem_of_getElem? (i := 4) rfl)) rfl dX1_findRows_71 rfl ?_
        refine r_iload dX1_findRows_74 4 rfl (Or.inl rfl) ?_
        refine r_iconst dX1_findRows_76 (by decide) ?_
        obtain ⟨h77, hg77, hr⟩ := bnd hr
        refine k_SN (host := "FollowingRefs") (as := [(50, h63 a0 13), (0, l4), (0, 0)]) (rest := []) (X := (none, h77)) (oX11_put hg77) gX11_put rfl (List.mem_of_getElem? (i := 5) rfl) rfl dX1_findRows_77 rfl ?_
        refine r_goto dX1_findRows_80 (tgt := 122) (by decide) ?_
        refine r_iinc (k := 4) (v := l4) dX1_findRows_122 rfl (by decide) (lv' := [(4, (0, w32 (l4 + 1))), (0, (11, a0)), (1, (12, a1)), (2, (0, a2)), (3, (2, l3))]) rfl ?_
        refine r_goto dX1_findRows_125 (tgt := 21) (by decide) ?_
        refine r_sub [1, 2, 3, 4, 0] (lv' := [(0, (11, a0)), (1, (12, a1)), (2, (0, a2)), (3, (2, l3)), (4, (0, w32 (l4 + 1)))]) rfl ?_
        obtain rfl := Option.some.inj hr
        exact k1 _ _ hk
    · have hr := ifp hr hc
      refine r_goto dX1_findRows_53 (tgt := 122) (by decide) ?_
      refine r_iinc (k := 4) (v := l4) dX1_findRows_122 rfl (by decide) (lv' := [(4, (0, w32 (l4 + 1))), (0, (11, a0)), (1, (12, a1)), (2, (0, a2)), (3, (2, l3))]) rfl ?_
      refine r_goto dX1_findRows_125 (tgt := 21) (by decide) ?_
      refine r_sub [1, 2, 3, 4, 0] (lv' := [(0, (11, a0)), (1, (12, a1)), (2, (0, a2)), (3, (2, l3)), (4, (0, w32 (l4 + 1)))]) rfl ?_
      obtain rfl := Option.some.inj hr
      exact k1 _ _ hk
set_option maxRecDepth 100000 in
set_option maxHeartbeats 4000000 in
theorem oX1_findRows_b17 {a0 a1 a2 s0 : Int} {K : hH → Prop} (k0 : ∀ r, K (r) → x = (none, r)) {r : hH} (hr : fX1_findRows_b17 h a0 a1 a2 s0 = some r) (hk : K r) : Wq p l e R s m args below meth c D G A H0 true n0 M_X1_findRows x 0 0 17 [(0, (11, a0)), (1, (12, a1)), (2, (0, a2))] [(2, s0)] h := by
  unfold fX1_findRows_b17 at hr
  refine r_istore_n dX1_findRows_17 rfl (Or.inr rfl) (by decide) (lv' := [(3, (2, s0)), (0, (11, a0)), (1, (12, a1)), (2, (0, a2))]) rfl ?_
  refine r_iconst dX1_findRows_18 (by decide) ?_
  refine r_istore dX1_findRows_19 (Or.inl rfl) (by decide) (lv' := [(4, (0, 0)), (3, (2, s0)), (0, (11, a0)), (1, (12, a1)), (2, (0, a2))]) rfl ?_
  refine r_sub [2, 3, 4, 1, 0] (lv' := [(0, (11, a0)), (1, (12, a1)), (2, (0, a2)), (3, (2, s0)), (4, (0, 0))]) rfl ?_
  exact lp_ok (w := fun (q : hH × Int) => Wq p l e R s m args below meth c D G A H0 true n0 M_X1_findRows x 0 0 21 [(0, (11, a0)), (1, (12, a1)), (2, (0, a2)), (3, (2, s0)), (4, (0, q.2))] [] (q.1)) (K := K) (fun ⟨q0, q1⟩ r h1 h2 => oX1_findRows_s21 (K := Sum.elim (fun (q : hH × Int) => Wq p l e R s m args below meth c D G A H0 true n0 M_X1_findRows x 0 0 21 [(0, (11, a0)), (1, (12, a1)), (2, (0, a2)), (3, (2, s0)), (4, (0, q.2))] [] (q.1)) (K)) (fun r z => k0 r z) (fun _ _ z => z) h1 h2) hr hk
set_option maxRecDepth 100000 in
set_option maxHeartbeats 4000000 in
theorem oX1_findRows_b0 {a0 a1 a2 : Int} {K : hH → Prop} (k0 : ∀ r, K (r) → x = (none, r)) {r : hH} (hr : fX1_findRows h a0 a1 a2 = some r) (hk : K r) : Wq p l e R s m args below meth c D G A H0 true n0 M_X1_findRows x 0 0 0 [(0, (11, a0)), (1, (12, a1)), (2, (0, a2))] [] h := by
  unfold fX1_findRows at hr
  refine r_aload_n dX1_findRows_0 rfl 1 rfl (nl rfl) ?_
  refine r_iload_n dX1_findRows_1 rfl 2 rfl (Or.inl rfl) ?_
  refine r_iconst dX1_findRows_2 (by decide) ?_
  obtain ⟨r3, hg3, hr⟩ := bnd hr
  refine k_V (ci := 2) (o := a1) (T := TX2) (as := [(0, a2), (0, 0)]) (rest := []) (X := (some (0, r3), h)) (oX2_part hg3) gX2_part rfl (by decide) rfl (wsl_32 _ (List.mem_of_getElem? (i := 17) rfl)) rfl dX1_findRows_3 rfl ?_
  refine r_sipush dX1_findRows_6 (by decide) (by decide) ?_
  refine r_icmp_ne dX1_findRows_9 (tgt := 16) (by decide) (fun hc => ?_) (fun hc => ?_)
  · have hr := ifn hr hc
    refine r_iconst dX1_findRows_16 (by decide) ?_
    refine r_scast 0 (v := (0, 0)) (w := (2, 0)) rfl cz (fun _ => Or.inl rfl) (st' := [(2, 0)]) rfl ?_
    exact oX1_findRows_b17 (K := K) (fun r z => k0 r z) hr hk
  · have hr := ifp hr hc
    refine r_iconst dX1_findRows_12 (by decide) ?_
    refine r_goto dX1_findRows_13 (tgt := 17) (by decide) ?_
    refine r_scast 0 (v := (0, 1)) (w := (2, 1)) rfl cz (fun _ => Or.inr rfl) (st' := [(2, 1)]) rfl ?_
    exact oX1_findRows_b17 (K := K) (fun r z => k0 r z) hr hk
end M_X1_findRows
theorem oX1_findRows {l : Launch} {D : va_G} {G : gG} {h : hH} {a0 a1 a2 : Int} {r : hH} (hr : fX1_findRows h a0 a1 a2 = some r) : Ctr l D G true yX1_findRows M_X1_findRows [(11, a0), (12, a1), (0, a2)] h (none, r) :=
  Ctr_of (by decide) rfl (fun z => by cases z) (nl rfl) (fun {p e R s m args below meth c A H0} => by
    exact oX1_findRows_b0 (K := fun z9 => z9 = r) (fun r9 z => by rw [z]) hr rfl)
/-! X1_followsGoer -/
theorem dX1_followsGoer_0 : decode cX1_followsGoer 0 = .ok (.iconst 0, 1) := by decide +kernel
theorem dX1_followsGoer_1 : decode cX1_followsGoer 1 = .ok (.istore_n 3, 1) := by decide +kernel
theorem dX1_followsGoer_2 : decode cX1_followsGoer 2 = .ok (.iload_n 3, 1) := by decide +kernel
theorem dX1_followsGoer_3 : decode cX1_followsGoer 3 = .ok (.aload_n 0, 1) := by decide +kernel
theorem dX1_followsGoer_4 : decode cX1_followsGoer 4 = .ok (.getfield 44, 3) := by decide +kernel
theorem dX1_followsGoer_7 : decode cX1_followsGoer 7 = .ok (.getfield 141, 3) := by decide +kernel
theorem dX1_followsGoer_10 : decode cX1_followsGoer 10 = .ok (.if_icmp .ge 58, 3) := by decide +kernel
theorem dX1_followsGoer_13 : decode cX1_followsGoer 13 = .ok (.aload_n 0, 1) := by decide +kernel
theorem dX1_followsGoer_14 : decode cX1_followsGoer 14 = .ok (.getfield 35, 3) := by decide +kernel
theorem dX1_followsGoer_17 : decode cX1_followsGoer 17 = .ok (.iload_n 1, 1) := by decide +kernel
theorem dX1_followsGoer_18 : decode cX1_followsGoer 18 = .ok (.bipush 6, 2) := by decide +kernel
theorem dX1_followsGoer_20 : decode cX1_followsGoer 20 = .ok (.imul, 1) := by decide +kernel
theorem dX1_followsGoer_21 : decode cX1_followsGoer 21 = .ok (.iload_n 3, 1) := by decide +kernel
theorem dX1_followsGoer_22 : decode cX1_followsGoer 22 = .ok (.iadd, 1) := by decide +kernel
theorem dX1_followsGoer_23 : decode cX1_followsGoer 23 = .ok (.invokestatic 165, 3) := by decide +kernel
theorem dX1_followsGoer_26 : decode cX1_followsGoer 26 = .ok (.istore 4, 2) := by decide +kernel
theorem dX1_followsGoer_28 : decode cX1_followsGoer 28 = .ok (.iload 4, 2) := by decide +kernel
theorem dX1_followsGoer_30 : decode cX1_followsGoer 30 = .ok (.iconst (-1), 1) := by decide +kernel
theorem dX1_followsGoer_31 : decode cX1_followsGoer 31 = .ok (.if_icmp .eq 31, 3) := by decide +kernel
theorem dX1_followsGoer_34 : decode cX1_followsGoer 34 = .ok (.aload_n 0, 1) := by decide +kernel
theorem dX1_followsGoer_35 : decode cX1_followsGoer 35 = .ok (.getfield 32, 3) := by decide +kernel
theorem dX1_followsGoer_38 : decode cX1_followsGoer 38 = .ok (.iload 4, 2) := by decide +kernel
theorem dX1_followsGoer_40 : decode cX1_followsGoer 40 = .ok (.invokestatic 165, 3) := by decide +kernel
theorem dX1_followsGoer_43 : decode cX1_followsGoer 43 = .ok (.iload_n 2, 1) := by decide +kernel
theorem dX1_followsGoer_44 : decode cX1_followsGoer 44 = .ok (.if_icmp .ne 18, 3) := by decide +kernel
theorem dX1_followsGoer_47 : decode cX1_followsGoer 47 = .ok (.aload_n 0, 1) := by decide +kernel
theorem dX1_followsGoer_48 : decode cX1_followsGoer 48 = .ok (.getfield 44, 3) := by decide +kernel
theorem dX1_followsGoer_51 : decode cX1_followsGoer 51 = .ok (.iload_n 3, 1) := by decide +kernel
theorem dX1_followsGoer_52 : decode cX1_followsGoer 52 = .ok (.iconst 3, 1) := by decide +kernel
theorem dX1_followsGoer_53 : decode cX1_followsGoer 53 = .ok (.invokevirtual 173, 3) := by decide +kernel
theorem dX1_followsGoer_56 : decode cX1_followsGoer 56 = .ok (.iconst 1, 1) := by decide +kernel
theorem dX1_followsGoer_57 : decode cX1_followsGoer 57 = .ok (.if_icmp .ne 5, 3) := by decide +kernel
theorem dX1_followsGoer_60 : decode cX1_followsGoer 60 = .ok (.iconst 1, 1) := by decide +kernel
theorem dX1_followsGoer_61 : decode cX1_followsGoer 61 = .ok (.ireturn, 1) := by decide +kernel
theorem dX1_followsGoer_62 : decode cX1_followsGoer 62 = .ok (.iinc 3 1, 3) := by decide +kernel
theorem dX1_followsGoer_65 : decode cX1_followsGoer 65 = .ok (.goto (-63), 3) := by decide +kernel
theorem dX1_followsGoer_68 : decode cX1_followsGoer 68 = .ok (.iconst 0, 1) := by decide +kernel
theorem dX1_followsGoer_69 : decode cX1_followsGoer 69 = .ok (.ireturn, 1) := by decide +kernel
abbrev M_X1_followsGoer : mM := (cX1_followsGoer, 5, RX1, some .boolean, false, 2, 43, 0, 0)
theorem gX1_followsGoer : cI yX1_followsGoer M_X1_followsGoer 2 := ⟨(wsl_35 _ (List.mem_of_getElem? (i := 13) rfl)), (wsl_35 _ (List.mem_of_getElem? (i := 14) rfl)), (wsl_2 _ (List.mem_of_getElem? (i := 19) rfl)), (wsl_35 _ (List.mem_of_getElem? (i := 15) rfl)), by decide +kernel⟩
noncomputable def fX1_followsGoer_s2 (h : hH) (a0 a1 a2 : Int) : Int → Option ((Int) ⊕ (Int)) := fun l3 =>
  if l3 < h (h a0 0) 2 then
    (fX11_at h (h a0 14) (w32 ((w32 (a1 * 6)) + l3))).bind fun r23 =>
    if r23 = -1 then
      some (.inl (w32 (l3 + 1)))
    else
      (fX11_at h (h a0 13) r23).bind fun r40 =>
      if r40 = a2 then
        (fX4_refPart h (h a0 0) l3 3).bind fun r53 =>
        if r53 = 1 then
          some (.inr (1))
        else
          some (.inl (w32 (l3 + 1)))
      else
        some (.inl (w32 (l3 + 1)))
  else
    some (.inr (0))
noncomputable def fX1_followsGoer (h : hH) (a0 a1 a2 : Int) : Option (Int) :=
  lpO (fX1_followsGoer_s2 h a0 a1 a2) 0
section M_X1_followsGoer
variable {p : Program} {l : Launch} {e : Env} {R : Room} {s : State} {m : MethodId} {args : Array Value} {below : List Frame} {meth : Method} {c : Code} {D : va_G} {G : gG} {A : Nat → Prop} {H0 : Heap} {n0 : Int} {x : Option vV × hH} {h : hH}
set_option maxRecDepth 100000 in
set_option maxHeartbeats 4000000 in
theorem oX1_followsGoer_s2 {a0 a1 a2 l3 : Int} {K : (Int) ⊕ (Int) → Prop} (k0 : ∀ r, K (.inr (r)) → x = (some (2, r), h)) (k1 : ∀ (l3 : Int), K (.inl l3) → Wq p l e R s m args below meth c D G A H0 true n0 M_X1_followsGoer x 0 0 2 [(0, (11, a0)), (1, (0, a1)), (2, (0, a2)), (3, (0, l3))] [] h) {r : (Int) ⊕ (Int)} (hr : fX1_followsGoer_s2 h a0 a1 a2 l3 = some r) (hk : K r) : Wq p l e R s m args below meth c D G A H0 true n0 M_X1_followsGoer x 0 0 2 [(0, (11, a0)), (1, (0, a1)), (2, (0, a2)), (3, (0, l3))] [] h := by
  unfold fX1_followsGoer_s2 at hr
  refine r_iload_n dX1_followsGoer_2 rfl 3 rfl (Or.inl rfl) ?_
  refine r_aload_n dX1_followsGoer_3 rfl 0 rfl (nl rfl) ?_
  refine r_get 1 0 (o := a0) (w := (14, h a0 0)) (T := TX1) (ref := "FollowingRefs$Judge") rfl (by decide) rfl (by decide) inlX1 (wsl_6 _ (List.mem_of_getElem? (i := 8) rfl)) rfl dX1_followsGoer_4 rfl ?_
  refine r_get 4 2 (o := h a0 0) (w := (0, h (h a0 0) 2)) (T := TX4) (ref := "FollowingRefs$Schema") rfl (by decide) rfl (by decide) inlX4 (wsl_33 _ (List.mem_of_getElem? (i := 21) rfl)) rfl dX1_followsGoer_7 rfl ?_
  refine r_icmp_ge dX1_followsGoer_10 (tgt := 68) (by decide) (fun hc => ?_) (fun hc => ?_)
  · have hr := ifn hr hc
    refine r_iconst dX1_followsGoer_68 (by decide) ?_
    refine r_scast 0 (v := (0, 0)) (w := (2, 0)) rfl cz (fun _ => Or.inl rfl) (st' := [(2, 0)]) rfl ?_
    obtain rfl := Option.some.inj hr
    exact r_ret dX1_followsGoer_69 rfl (Or.inr ⟨rfl, rfl⟩) (k0 _ hk) ⟨rfl, rfl⟩
  · have hr := ifp hr hc
    refine r_aload_n dX1_followsGoer_13 rfl 0 rfl (nl rfl) ?_
    refine r_get 1 14 (o := a0) (w := (50, h a0 14)) (T := TX1) (ref := "FollowingRefs$Judge") rfl (by decide) rfl (by decide) inlX1 (wsl_6 _ (List.mem_of_getElem? (i := 5) rfl)) rfl dX1_followsGoer_14 rfl ?_
    refine r_iload_n dX1_followsGoer_17 rfl 1 rfl (Or.inl rfl) ?_
    refine r_bipush dX1_followsGoer_18 (by decide) (by decide) ?_
    refine r_imul dX1_followsGoer_20 ?_
    refine r_iload_n dX1_followsGoer_21 rfl 3 rfl (Or.inl rfl) ?_
    refine r_iadd dX1_followsGoer_22 ?_
    obtain ⟨r23, hg23, hr⟩ := bnd hr
    refine k_SN (host := "FollowingRefs") (as := [(50, h a0 14), (0, w32 ((w32 (a1 * 6)) + l3))]) (rest := []) (X := (some (0, r23), h)) (oX11_at hg23) gX11_at rfl (List.mem_of_getElem? (i := 6) rfl) rfl dX1_followsGoer_23 rfl ?_
    refine r_istore dX1_followsGoer_26 (Or.inl rfl) (by decide) (lv' := [(4, (0, r23)), (0, (11, a0)), (1, (0, a1)), (2, (0, a2)), (3, (0, l3))]) rfl ?_
    refine r_iload dX1_followsGoer_28 0 rfl (Or.inl rfl) ?_
    refine r_iconst dX1_followsGoer_30 (by decide) ?_
    refine r_icmp_eq dX1_followsGoer_31 (tgt := 62) (by decide) (fun hc => ?_) (fun hc => ?_)
    · have hr := ifp hr hc
      refine r_iinc (k := 4) (v := l3) dX1_followsGoer_62 rfl (by decide) (lv' := [(3, (0, w32 (l3 + 1))), (4, (0, r23)), (0, (11, a0)), (1, (0, a1)), (2, (0, a2))]) rfl ?_
      refine r_goto dX1_followsGoer_65 (tgt := 2) (by decide) ?_
      refine r_sub [2, 3, 4, 0] (lv' := [(0, (11, a0)), (1, (0, a1)), (2, (0, a2)), (3, (0, w32 (l3 + 1)))]) rfl ?_
      obtain rfl := Option.some.inj hr
      exact k1 _ hk
    · have hr := ifn hr hc
      refine r_aload_n dX1_followsGoer_34 rfl 1 rfl (nl rfl) ?_
      refine r_get 1 13 (o := a0) (w := (50, h a0 13)) (T := TX1) (ref := "FollowingRefs$Judge") rfl (by decide) rfl (by decide) inlX1 (wsl_6 _ (List.mem_of_getElem? (i := 4) rfl)) rfl dX1_followsGoer_35 rfl ?_
      refine r_iload dX1_followsGoer_38 0 rfl (Or.inl rfl) ?_
      obtain ⟨r40, hg40, hr⟩ := bnd hr
      refine k_SN (host := "FollowingRefs") (as := [(50, h a0 13), (0, r23)]) (rest := []) (X := (some (0, r40), h)) (oX11_at hg40) gX11_at rfl (List.mem_of_getElem? (i := 6) rfl) rfl dX1_followsGoer_40 rfl ?_
      refine r_iload_n dX1_followsGoer_43 rfl 3 rfl (Or.inl rfl) ?_
      refine r_icmp_ne dX1_followsGoer_44 (tgt := 62) (by decide) (fun hc => ?_) (fun hc => ?_)
      · have hr := ifn hr hc
        refine r_iinc (k := 4) (v := l3) dX1_followsGoer_62 rfl (by decide) (lv' := [(3, (0, w32 (l3 + 1))), (4, (0, r23)), (0, (11, a0)), (1, (0, a1)), (2, (0, a2))]) rfl ?_
        refine r_goto dX1_followsGoer_65 (tgt := 2) (by decide) ?_
        refine r_sub [2, 3, 4, 0] (lv' := [(0, (11, a0)), (1, (0, a1)), (2, (0, a2)), (3, (0, w32 (l3 + 1)))]) rfl ?_
        obtain rfl := Option.some.inj hr
        exact k1 _ hk
      · have hr := ifp hr hc
        refine r_aload_n dX1_followsGoer_47 rfl 1 rfl (nl rfl) ?_
        refine r_get 1 0 (o := a0) (w := (14, h a0 0)) (T := TX1) (ref := "FollowingRefs$Judge") rfl (by decide) rfl (by decide) inlX1 (wsl_6 _ (List.mem_of_getElem? (i := 8) rfl)) rfl dX1_followsGoer_48 rfl ?_
        refine r_iload_n dX1_followsGoer_51 rfl 4 rfl (Or.inl rfl) ?_
        refine r_iconst dX1_followsGoer_52 (by decide) ?_
        obtain ⟨r53, hg53, hr⟩ := bnd hr
        refine k_V (ci := 4) (o := h a0 0) (T := TX4) (as := [(0, l3), (0, 3)]) (rest := []) (X := (some (0, r53), h)) (oX4_refPart hg53) gX4_refPart rfl (by decide) rfl (wsl_35 _ (List.mem_of_getElem? (i := 16) rfl)) rfl dX1_followsGoer_53 rfl ?_
        refine r_iconst dX1_followsGoer_56 (by decide) ?_
        refine r_icmp_ne dX1_followsGoer_57 (tgt := 62) (by decide) (fun hc => ?_) (fun hc => ?_)
        · have hr := ifn hr hc
          refine r_iinc (k := 4) (v := l3) dX1_followsGoer_62 rfl (by decide) (lv' := [(3, (0, w32 (l3 + 1))), (4, (0, r23)), (0, (11, a0)), (1, (0, a1)), (2, (0, a2))]) rfl ?_
          refine r_goto dX1_followsGoer_65 (tgt := 2) (by decide) ?_
          refine r_sub [2, 3, 4, 0] (lv' := [(0, (11, a0)), (1, (0, a1)), (2, (0, a2)), (3, (0, w32 (l3 + 1)))]) rfl ?_
          obtain rfl := Option.some.inj hr
          exact k1 _ hk
        · have hr := ifp hr hc
          refine r_iconst dX1_followsGoer_60 (by decide) ?_
          refine r_scast 0 (v := (0, 1)) (w := (2, 1)) rfl cz (fun _ => Or.inr rfl) (st' := [(2, 1)]) rfl ?_
          obtain rfl := Option.some.inj hr
          exact r_ret dX1_followsGoer_61 rfl (Or.inr ⟨rfl, rfl⟩) (k0 _ hk) ⟨rfl, rfl⟩
set_option maxRecDepth 100000 in
set_option maxHeartbeats 4000000 in
theorem oX1_followsGoer_b0 {a0 a1 a2 : Int} {K : Int → Prop} (k0 : ∀ r, K (r) → x = (some (2, r), h)) {r : Int} (hr : fX1_followsGoer h a0 a1 a2 = some r) (hk : K r) : Wq p l e R s m args below meth c D G A H0 true n0 M_X1_followsGoer x 0 0 0 [(0, (11, a0)), (1, (0, a1)), (2, (0, a2))] [] h := by
  unfold fX1_followsGoer at hr
  refine r_iconst dX1_followsGoer_0 (by decide) ?_
  refine r_istore_n dX1_followsGoer_1 rfl (Or.inl rfl) (by decide) (lv' := [(3, (0, 0)), (0, (11, a0)), (1, (0, a1)), (2, (0, a2))]) rfl ?_
  refine r_sub [1, 2, 3, 0] (lv' := [(0, (11, a0)), (1, (0, a1)), (2, (0, a2)), (3, (0, 0))]) rfl ?_
  exact lp_ok (w := fun (q : Int) => Wq p l e R s m args below meth c D G A H0 true n0 M_X1_followsGoer x 0 0 2 [(0, (11, a0)), (1, (0, a1)), (2, (0, a2)), (3, (0, q))] [] (h)) (K := K) (fun q r h1 h2 => oX1_followsGoer_s2 (K := Sum.elim (fun (q : Int) => Wq p l e R s m args below meth c D G A H0 true n0 M_X1_followsGoer x 0 0 2 [(0, (11, a0)), (1, (0, a1)), (2, (0, a2)), (3, (0, q))] [] (h)) (K)) (fun r z => k0 r z) (fun _ z => z) h1 h2) hr hk
end M_X1_followsGoer
theorem oX1_followsGoer {l : Launch} {D : va_G} {G : gG} {h : hH} {a0 a1 a2 : Int} {r : Int} (hr : fX1_followsGoer h a0 a1 a2 = some r) : Ctr l D G true yX1_followsGoer M_X1_followsGoer [(11, a0), (0, a1), (0, a2)] h (some (2, r), h) :=
  Ctr_of (by decide) rfl (fun z => by cases z) (nl rfl) (fun {p e R s m args below meth c A H0} => by
    exact oX1_followsGoer_b0 (K := fun z9 => z9 = r) (fun r9 z => by rw [z]) hr rfl)
/-! X1_spreadGoing -/
theorem dX1_spreadGoing_0 : decode cX1_spreadGoing 0 = .ok (.aload_n 0, 1) := by decide +kernel
theorem dX1_spreadGoing_1 : decode cX1_spreadGoing 1 = .ok (.iconst 1, 1) := by decide +kernel
theorem dX1_spreadGoing_2 : decode cX1_spreadGoing 2 = .ok (.putfield 162, 3) := by decide +kernel
theorem dX1_spreadGoing_5 : decode cX1_spreadGoing 5 = .ok (.iconst 1, 1) := by decide +kernel
theorem dX1_spreadGoing_6 : decode cX1_spreadGoing 6 = .ok (.istore_n 1, 1) := by decide +kernel
theorem dX1_spreadGoing_7 : decode cX1_spreadGoing 7 = .ok (.iload_n 1, 1) := by decide +kernel
theorem dX1_spreadGoing_8 : decode cX1_spreadGoing 8 = .ok (.bipush 40, 2) := by decide +kernel
theorem dX1_spreadGoing_10 : decode cX1_spreadGoing 10 = .ok (.if_icmp .gt 80, 3) := by decide +kernel
theorem dX1_spreadGoing_13 : decode cX1_spreadGoing 13 = .ok (.aload_n 0, 1) := by decide +kernel
theorem dX1_spreadGoing_14 : decode cX1_spreadGoing 14 = .ok (.getfield 162, 3) := by decide +kernel
theorem dX1_spreadGoing_17 : decode cX1_spreadGoing 17 = .ok (.ifCond .eq 73, 3) := by decide +kernel
theorem dX1_spreadGoing_20 : decode cX1_spreadGoing 20 = .ok (.aload_n 0, 1) := by decide +kernel
theorem dX1_spreadGoing_21 : decode cX1_spreadGoing 21 = .ok (.iconst 0, 1) := by decide +kernel
theorem dX1_spreadGoing_22 : decode cX1_spreadGoing 22 = .ok (.putfield 162, 3) := by decide +kernel
theorem dX1_spreadGoing_25 : decode cX1_spreadGoing 25 = .ok (.iconst 0, 1) := by decide +kernel
theorem dX1_spreadGoing_26 : decode cX1_spreadGoing 26 = .ok (.istore_n 2, 1) := by decide +kernel
theorem dX1_spreadGoing_27 : decode cX1_spreadGoing 27 = .ok (.iload_n 2, 1) := by decide +kernel
theorem dX1_spreadGoing_28 : decode cX1_spreadGoing 28 = .ok (.aload_n 0, 1) := by decide +kernel
theorem dX1_spreadGoing_29 : decode cX1_spreadGoing 29 = .ok (.getfield 48, 3) := by decide +kernel
theorem dX1_spreadGoing_32 : decode cX1_spreadGoing 32 = .ok (.getfield 124, 3) := by decide +kernel
theorem dX1_spreadGoing_35 : decode cX1_spreadGoing 35 = .ok (.getfield 138, 3) := by decide +kernel
theorem dX1_spreadGoing_38 : decode cX1_spreadGoing 38 = .ok (.if_icmp .ge 46, 3) := by decide +kernel
theorem dX1_spreadGoing_41 : decode cX1_spreadGoing 41 = .ok (.aload_n 0, 1) := by decide +kernel
theorem dX1_spreadGoing_42 : decode cX1_spreadGoing 42 = .ok (.getfield 32, 3) := by decide +kernel
theorem dX1_spreadGoing_45 : decode cX1_spreadGoing 45 = .ok (.iload_n 2, 1) := by decide +kernel
theorem dX1_spreadGoing_46 : decode cX1_spreadGoing 46 = .ok (.invokestatic 165, 3) := by decide +kernel
theorem dX1_spreadGoing_49 : decode cX1_spreadGoing 49 = .ok (.iconst (-1), 1) := by decide +kernel
theorem dX1_spreadGoing_50 : decode cX1_spreadGoing 50 = .ok (.if_icmp .ne 28, 3) := by decide +kernel
theorem dX1_spreadGoing_53 : decode cX1_spreadGoing 53 = .ok (.aload_n 0, 1) := by decide +kernel
theorem dX1_spreadGoing_54 : decode cX1_spreadGoing 54 = .ok (.iload_n 2, 1) := by decide +kernel
theorem dX1_spreadGoing_55 : decode cX1_spreadGoing 55 = .ok (.iload_n 1, 1) := by decide +kernel
theorem dX1_spreadGoing_56 : decode cX1_spreadGoing 56 = .ok (.iconst 1, 1) := by decide +kernel
theorem dX1_spreadGoing_57 : decode cX1_spreadGoing 57 = .ok (.isub, 1) := by decide +kernel
theorem dX1_spreadGoing_58 : decode cX1_spreadGoing 58 = .ok (.invokevirtual 169, 3) := by decide +kernel
theorem dX1_spreadGoing_61 : decode cX1_spreadGoing 61 = .ok (.ifCond .eq 17, 3) := by decide +kernel
theorem dX1_spreadGoing_64 : decode cX1_spreadGoing 64 = .ok (.aload_n 0, 1) := by decide +kernel
theorem dX1_spreadGoing_65 : decode cX1_spreadGoing 65 = .ok (.getfield 32, 3) := by decide +kernel
theorem dX1_spreadGoing_68 : decode cX1_spreadGoing 68 = .ok (.iload_n 2, 1) := by decide +kernel
theorem dX1_spreadGoing_69 : decode cX1_spreadGoing 69 = .ok (.iload_n 1, 1) := by decide +kernel
theorem dX1_spreadGoing_70 : decode cX1_spreadGoing 70 = .ok (.invokestatic 150, 3) := by decide +kernel
theorem dX1_spreadGoing_73 : decode cX1_spreadGoing 73 = .ok (.aload_n 0, 1) := by decide +kernel
theorem dX1_spreadGoing_74 : decode cX1_spreadGoing 74 = .ok (.iconst 1, 1) := by decide +kernel
theorem dX1_spreadGoing_75 : decode cX1_spreadGoing 75 = .ok (.putfield 162, 3) := by decide +kernel
theorem dX1_spreadGoing_78 : decode cX1_spreadGoing 78 = .ok (.iinc 2 1, 3) := by decide +kernel
theorem dX1_spreadGoing_81 : decode cX1_spreadGoing 81 = .ok (.goto (-54), 3) := by decide +kernel
theorem dX1_spreadGoing_84 : decode cX1_spreadGoing 84 = .ok (.iinc 1 1, 3) := by decide +kernel
theorem dX1_spreadGoing_87 : decode cX1_spreadGoing 87 = .ok (.goto (-80), 3) := by decide +kernel
theorem dX1_spreadGoing_90 : decode cX1_spreadGoing 90 = .ok (.return_, 1) := by decide +kernel
abbrev M_X1_spreadGoing : mM := (cX1_spreadGoing, 3, RX1, none, false, 3, 67, 0, 0)
theorem gX1_spreadGoing : cI yX1_spreadGoing M_X1_spreadGoing 0 := ⟨(wsl_35 _ (List.mem_of_getElem? (i := 9) rfl)), (wsl_35 _ (List.mem_of_getElem? (i := 10) rfl)), (wsl_2 _ (List.mem_of_getElem? (i := 19) rfl)), (wsl_35 _ (List.mem_of_getElem? (i := 11) rfl)), by decide +kernel⟩
noncomputable def fX1_spreadGoing_s27 (h0 : hH) (a0 l1 : Int) : hH × Int → Option ((hH × Int) ⊕ ((hH × Int) ⊕ (hH))) := fun (h, l2) =>
  if l2 < h (h (h a0 1) 0) 0 then
    (fX11_at h (h a0 13) l2).bind fun r46 =>
    if r46 = -1 then
      (fX1_followsGoer h a0 l2 (w32 (l1 - 1))).bind fun r58 =>
      if r58 = 0 then
        some (.inl (h, w32 (l2 + 1)))
      else
        (fX11_put h (h a0 13) l2 l1).bind fun h70 =>
        (pput h70 a0 10 1).bind fun h75 =>
        some (.inl (h75, w32 (l2 + 1)))
    else
      some (.inl (h, w32 (l2 + 1)))
  else
    some (.inr (.inl (h, w32 (l1 + 1))))
noncomputable def fX1_spreadGoing_s7 (h0 : hH) (a0 : Int) : hH × Int → Option ((hH × Int) ⊕ (hH)) := fun (h, l1) =>
  if 40 < l1 then
    some (.inr (h))
  else
    if h a0 10 = 0 then
      some (.inr (h))
    else
      (pput h a0 10 0).bind fun h22 =>
      lpO (fX1_spreadGoing_s27 h22 a0 l1) (h22, 0)
noncomputable def fX1_spreadGoing (h : hH) (a0 : Int) : Option (hH) :=
  (pput h a0 10 1).bind fun h2 =>
  lpO (fX1_spreadGoing_s7 h2 a0) (h2, 1)
section M_X1_spreadGoing
variable {p : Program} {l : Launch} {e : Env} {R : Room} {s : State} {m : MethodId} {args : Array Value} {below : List Frame} {meth : Method} {c : Code} {D : va_G} {G : gG} {A : Nat → Prop} {H0 : Heap} {n0 : Int} {x : Option vV × hH} {h : hH}
set_option maxRecDepth 100000 in
set_option maxHeartbeats 4000000 in
theorem oX1_spreadGoing_s27 {h0 : hH} {a0 l1 l2 : Int} {K : (hH × Int) ⊕ ((hH × Int) ⊕ (hH)) → Prop} (k0 : ∀ r, K (.inr (.inr (r))) → x = (none, r)) (k1 : ∀ (h : hH) (l1 : Int), K (.inr (.inl (h, l1))) → Wq p l e R s m args below meth c D G A H0 true n0 M_X1_spreadGoing x 0 0 7 [(0, (11, a0)), (1, (0, l1))] [] h) (k2 : ∀ (h : hH) (l2 : Int), K (.inl (h, l2)) → Wq p l e R s m args below meth c D G A H0 true n0 M_X1_spreadGoing x 0 0 27 [(0, (11, a0)), (1, (0, l1)), (2, (0, l2))] [] h) {r : (hH × Int) ⊕ ((hH × Int) ⊕ (hH))} (hr : fX1_spreadGoing_s27 h0 a0 l1 (h, l2) = some r) (hk : K r) : Wq p l e R s m args below meth c D G A H0 true n0 M_X1_spreadGoing x 0 0 27 [(0, (11, a0)), (1, (0, l1)), (2, (0, l2))] [] h := by
  unfold fX1_spreadGoing_s27 at hr
  refine r_iload_n dX1_spreadGoing_27 rfl 2 rfl (Or.inl rfl) ?_
  refine r_aload_n dX1_spreadGoing_28 rfl 0 rfl (nl rfl) ?_
  refine r_get 1 1 (o := a0) (w := (18, h a0 1)) (T := TX1) (ref := "FollowingRefs$Judge") rfl (by decide) rfl (by decide) inlX1 (wsl_6 _ (List.mem_of_getElem? (i := 9) rfl)) rfl dX1_spreadGoing_29 rfl ?_
  refine r_get 8 0 (o := h a0 1) (w := (13, h (h a0 1) 0)) (T := TX8) (ref := "FollowingRefs$State") rfl (by decide) rfl (by decide) inlX8 (wsl_32 _ (List.mem_of_getElem? (i := 22) rfl)) rfl dX1_spreadGoing_32 rfl ?_
  refine r_get 3 0 (o := h (h a0 1) 0) (w := (0, h (h (h a0 1) 0) 0)) (T := TX3) (ref := "FollowingRefs$Rows") rfl (by decide) rfl (by decide) inlX3 (wsl_33 _ (List.mem_of_getElem? (i := 20) rfl)) rfl dX1_spreadGoing_35 rfl ?_
  refine r_icmp_ge dX1_spreadGoing_38 (tgt := 84) (by decide) (fun hc => ?_) (fun hc => ?_)
  · have hr := ifn hr hc
    refine r_iinc (k := 1) (v := l1) dX1_spreadGoing_84 rfl (by decide) (lv' := [(1, (0, w32 (l1 + 1))), (0, (11, a0)), (2, (0, l2))]) rfl ?_
    refine r_goto dX1_spreadGoing_87 (tgt := 7) (by decide) ?_
    refine r_sub [1, 0] (lv' := [(0, (11, a0)), (1, (0, w32 (l1 + 1)))]) rfl ?_
    obtain rfl := Option.some.inj hr
    exact k1 _ _ hk
  · have hr := ifp hr hc
    refine r_aload_n dX1_spreadGoing_41 rfl 0 rfl (nl rfl) ?_
    refine r_get 1 13 (o := a0) (w := (50, h a0 13)) (T := TX1) (ref := "FollowingRefs$Judge") rfl (by decide) rfl (by decide) inlX1 (wsl_6 _ (List.mem_of_getElem? (i := 4) rfl)) rfl dX1_spreadGoing_42 rfl ?_
    refine r_iload_n dX1_spreadGoing_45 rfl 2 rfl (Or.inl rfl) ?_
    obtain ⟨r46, hg46, hr⟩ := bnd hr
    refine k_SN (host := "FollowingRefs") (as := [(50, h a0 13), (0, l2)]) (rest := []) (X := (some (0, r46), h)) (oX11_at hg46) gX11_at rfl (List.mem_of_getElem? (i := 6) rfl) rfl dX1_spreadGoing_46 rfl ?_
    refine r_iconst dX1_spreadGoing_49 (by decide) ?_
    refine r_icmp_ne dX1_spreadGoing_50 (tgt := 78) (by decide) (fun hc => ?_) (fun hc => ?_)
    · have hr := ifn hr hc
      refine r_iinc (k := 2) (v := l2) dX1_spreadGoing_78 rfl (by decide) (lv' := [(2, (0, w32 (l2 + 1))), (0, (11, a0)), (1, (0, l1))]) rfl ?_
      refine r_goto dX1_spreadGoing_81 (tgt := 27) (by decide) ?_
      refine r_sub [1, 2, 0] (lv' := [(0, (11, a0)), (1, (0, l1)), (2, (0, w32 (l2 + 1)))]) rfl ?_
      obtain rfl := Option.some.inj hr
      exact k2 _ _ hk
    · have hr := ifp hr hc
      refine r_aload_n dX1_spreadGoing_53 rfl 0 rfl (nl rfl) ?_
      refine r_iload_n dX1_spreadGoing_54 rfl 2 rfl (Or.inl rfl) ?_
      refine r_iload_n dX1_spreadGoing_55 rfl 1 rfl (Or.inl rfl) ?_
      refine r_iconst dX1_spreadGoing_56 (by decide) ?_
      refine r_isub dX1_spreadGoing_57 ?_
      obtain ⟨r58, hg58, hr⟩ := bnd hr
      refine k_V (ci := 1) (o := a0) (T := TX1) (as := [(0, l2), (0, w32 (l1 - 1))]) (rest := []) (X := (some (2, r58), h)) (oX1_followsGoer hg58) gX1_followsGoer rfl (by decide) rfl (wsl_35 _ (List.mem_of_getElem? (i := 12) rfl)) rfl dX1_spreadGoing_58 rfl ?_
      refine r_scast 0 (v := (2, r58)) (w := (0, r58)) rfl zc hTz (st' := [(0, r58)]) rfl ?_
      refine r_if_eq dX1_spreadGoing_61 (tgt := 78) (by decide) (fun hc => ?_) (fun hc => ?_)
      · have hr := ifp hr hc
        refine r_iinc (k := 2) (v := l2) dX1_spreadGoing_78 rfl (by decide) (lv' := [(2, (0, w32 (l2 + 1))), (0, (11, a0)), (1, (0, l1))]) rfl ?_
        refine r_goto dX1_spreadGoing_81 (tgt := 27) (by decide) ?_
        refine r_sub [1, 2, 0] (lv' := [(0, (11, a0)), (1, (0, l1)), (2, (0, w32 (l2 + 1)))]) rfl ?_
        obtain rfl := Option.some.inj hr
        exact k2 _ _ hk
      · have hr := ifn hr hc
        refine r_aload_n dX1_spreadGoing_64 rfl 0 rfl (nl rfl) ?_
        refine r_get 1 13 (o := a0) (w := (50, h a0 13)) (T := TX1) (ref := "FollowingRefs$Judge") rfl (by decide) rfl (by decide) inlX1 (wsl_6 _ (List.mem_of_getElem? (i := 4) rfl)) rfl dX1_spreadGoing_65 rfl ?_
        refine r_iload_n dX1_spreadGoing_68 rfl 2 rfl (Or.inl rfl) ?_
        refine r_iload_n dX1_spreadGoing_69 rfl 1 rfl (Or.inl rfl) ?_
        obtain ⟨h70, hg70, hr⟩ := bnd hr
        refine k_SN (host := "FollowingRefs") (as := [(50, h a0 13), (0, l2), (0, l1)]) (rest := []) (X := (none, h70)) (oX11_put hg70) gX11_put rfl (List.mem_of_getElem? (i := 5) rfl) rfl dX1_spreadGoing_70 rfl ?_
        refine r_aload_n dX1_spreadGoing_73 rfl 0 rfl (nl rfl) ?_
        refine r_iconst dX1_spreadGoing_74 (by decide) ?_
        refine r_scast 0 (v := (0, 1)) (w := (2, 1)) rfl cz (fun _ => Or.inr rfl) (st' := [(2, 1), (11, a0)]) rfl ?_
        obtain ⟨h75, hg75, hr⟩ := bnd hr
        refine r_put' 1 10 (t := 2) (ref := "FollowingRefs$Judge") hg75 rfl tyX1 tyX1_ok nmX1 rfl (by decide) rfl (by decide) inlX1 (wsl_35 _ (List.mem_of_getElem? (i := 7) rfl)) rfl rfl (by decide +kernel) (by decide) rfl (Or.inr (Or.inr (Or.inl ⟨rfl, rfl⟩))) dX1_spreadGoing_75 ?_
        refine r_iinc (k := 2) (v := l2) dX1_spreadGoing_78 rfl (by decide) (lv' := [(2, (0, w32 (l2 + 1))), (0, (11, a0)), (1, (0, l1))]) rfl ?_
        refine r_goto dX1_spreadGoing_81 (tgt := 27) (by decide) ?_
        refine r_sub [1, 2, 0] (lv' := [(0, (11, a0)), (1, (0, l1)), (2, (0, w32 (l2 + 1)))]) rfl ?_
        obtain rfl := Option.some.inj hr
        exact k2 _ _ hk
set_option maxRecDepth 100000 in
set_option maxHeartbeats 4000000 in
theorem oX1_spreadGoing_s7 {h0 : hH} {a0 l1 : Int} {K : (hH × Int) ⊕ (hH) → Prop} (k0 : ∀ r, K (.inr (r)) → x = (none, r)) (k1 : ∀ (h : hH) (l1 : Int), K (.inl (h, l1)) → Wq p l e R s m args below meth c D G A H0 true n0 M_X1_spreadGoing x 0 0 7 [(0, (11, a0)), (1, (0, l1))] [] h) {r : (hH × Int) ⊕ (hH)} (hr : fX1_spreadGoing_s7 h0 a0 (h, l1) = some r) (hk : K r) : Wq p l e R s m args below meth c D G A H0 true n0 M_X1_spreadGoing x 0 0 7 [(0, (11, a0)), (1, (0, l1))] [] h := by
  unfold fX1_spreadGoing_s7 at hr
  refine r_iload_n dX1_spreadGoing_7 rfl 1 rfl (Or.inl rfl) ?_
  refine r_bipush dX1_spreadGoing_8 (by decide) (by decide) ?_
  refine r_icmp_gt dX1_spreadGoing_10 (tgt := 90) (by decide) (fun hc => ?_) (fun hc => ?_)
  · have hr := ifp hr hc
    obtain rfl := Option.some.inj hr
    exact r_vret dX1_spreadGoing_90 rfl (k0 _ hk) ⟨rfl, rfl⟩
  · have hr := ifn hr hc
    refine r_aload_n dX1_spreadGoing_13 rfl 0 rfl (nl rfl) ?_
    refine r_get 1 10 (o := a0) (w := (2, h a0 10)) (T := TX1) (ref := "FollowingRefs$Judge") rfl (by decide) rfl (by decide) inlX1 (wsl_35 _ (List.mem_of_getElem? (i := 7) rfl)) rfl dX1_spreadGoing_14 rfl ?_
    refine r_scast 0 (v := (2, h a0 10)) (w := (0, h a0 10)) rfl zc hTz (st' := [(0, h a0 10)]) rfl ?_
    refine r_if_eq dX1_spreadGoing_17 (tgt := 90) (by decide) (fun hc => ?_) (fun hc => ?_)
    · have hr := ifp hr hc
      obtain rfl := Option.some.inj hr
      exact r_vret dX1_spreadGoing_90 rfl (k0 _ hk) ⟨rfl, rfl⟩
    · have hr := ifn hr hc
      refine r_aload_n dX1_spreadGoing_20 rfl 0 rfl (nl rfl) ?_
      refine r_iconst dX1_spreadGoing_21 (by decide) ?_
      refine r_scast 0 (v := (0, 0)) (w := (2, 0)) rfl cz (fun _ => Or.inl rfl) (st' := [(2, 0), (11, a0)]) rfl ?_
      obtain ⟨h22, hg22, hr⟩ := bnd hr
      refine r_put' 1 10 (t := 2) (ref := "FollowingRefs$Judge") hg22 rfl tyX1 tyX1_ok nmX1 rfl (by decide) rfl (by decide) inlX1 (wsl_35 _ (List.mem_of_getElem? (i := 7) rfl)) rfl rfl (by decide +kernel) (by decide) rfl (Or.inr (Or.inr (Or.inl ⟨rfl, rfl⟩))) dX1_spreadGoing_22 ?_
      refine r_iconst dX1_spreadGoing_25 (by decide) ?_
      refine r_istore_n dX1_spreadGoing_26 rfl (Or.inl rfl) (by decide) (lv' := [(2, (0, 0)), (0, (11, a0)), (1, (0, l1))]) rfl ?_
      refine r_sub [1, 2, 0] (lv' := [(0, (11, a0)), (1, (0, l1)), (2, (0, 0))]) rfl ?_
      exact lp_ok (w := fun (q : hH × Int) => Wq p l e R s m args below meth c D G A H0 true n0 M_X1_spreadGoing x 0 0 27 [(0, (11, a0)), (1, (0, l1)), (2, (0, q.2))] [] (q.1)) (K := K) (fun ⟨q0, q1⟩ r h1 h2 => oX1_spreadGoing_s27 (K := Sum.elim (fun (q : hH × Int) => Wq p l e R s m args below meth c D G A H0 true n0 M_X1_spreadGoing x 0 0 27 [(0, (11, a0)), (1, (0, l1)), (2, (0, q.2))] [] (q.1)) (K)) (fun r z => k0 r z) (fun _ _ z => k1 _ _ z) (fun _ _ z => z) h1 h2) hr hk
set_option maxRecDepth 100000 in
set_option maxHeartbeats 4000000 in
theorem oX1_spreadGoing_b0 {a0 : Int} {K : hH → Prop} (k0 : ∀ r, K (r) → x = (none, r)) {r : hH} (hr : fX1_spreadGoing h a0 = some r) (hk : K r) : Wq p l e R s m args below meth c D G A H0 true n0 M_X1_spreadGoing x 0 0 0 [(0, (11, a0))] [] h := by
  unfold fX1_spreadGoing at hr
  refine r_aload_n dX1_spreadGoing_0 rfl 0 rfl (nl rfl) ?_
  refine r_iconst dX1_spreadGoing_1 (by decide) ?_
  refine r_scast 0 (v := (0, 1)) (w := (2, 1)) rfl cz (fun _ => Or.inr rfl) (st' := [(2, 1), (11, a0)]) rfl ?_
  obtain ⟨h2, hg2, hr⟩ := bnd hr
  refine r_put' 1 10 (t := 2) (ref := "FollowingRefs$Judge") hg2 rfl tyX1 tyX1_ok nmX1 rfl (by decide) rfl (by decide) inlX1 (wsl_35 _ (List.mem_of_getElem? (i := 7) rfl)) rfl rfl (by decide +kernel) (by decide) rfl (Or.inr (Or.inr (Or.inl ⟨rfl, rfl⟩))) dX1_spreadGoing_2 ?_
  refine r_iconst dX1_spreadGoing_5 (by decide) ?_
  refine r_istore_n dX1_spreadGoing_6 rfl (Or.inl rfl) (by decide) (lv' := [(1, (0, 1)), (0, (11, a0))]) rfl ?_
  refine r_sub [1, 0] (lv' := [(0, (11, a0)), (1, (0, 1))]) rfl ?_
  exact lp_ok (w := fun (q : hH × Int) => Wq p l e R s m args below meth c D G A H0 true n0 M_X1_spreadGoing x 0 0 7 [(0, (11, a0)), (1, (0, q.2))] [] (q.1)) (K := K) (fun ⟨q0, q1⟩ r h1 h2 => oX1_spreadGoing_s7 (K := Sum.elim (fun (q : hH × Int) => Wq p l e R s m args below meth c D G A H0 true n0 M_X1_spreadGoing x 0 0 7 [(0, (11, a0)), (1, (0, q.2))] [] (q.1)) (K)) (fun r z => k0 r z) (fun _ _ z => z) h1 h2) hr hk
end M_X1_spreadGoing
theorem oX1_spreadGoing {l : Launch} {D : va_G} {G : gG} {h : hH} {a0 : Int} {r : hH} (hr : fX1_spreadGoing h a0 = some r) : Ctr l D G true yX1_spreadGoing M_X1_spreadGoing [(11, a0)] h (none, r) :=
  Ctr_of (by decide) rfl (fun z => by cases z) (nl rfl) (fun {p e R s m args below meth c A H0} => by
    exact oX1_spreadGoing_b0 (K := fun z9 => z9 = r) (fun r9 z => by rw [z]) hr rfl)
/-! X3_numberAt -/
theorem dX3_numberAt_0 : decode cX3_numberAt 0 = .ok (.iload_n 1, 1) := by decide +kernel
theorem dX3_numberAt_1 : decode cX3_numberAt 1 = .ok (.ifCond .lt 29, 3) := by decide +kernel
theorem dX3_numberAt_4 : decode cX3_numberAt 4 = .ok (.iload_n 1, 1) := by decide +kernel
theorem dX3_numberAt_5 : decode cX3_numberAt 5 = .ok (.aload_n 0, 1) := by decide +kernel
theorem dX3_numberAt_6 : decode cX3_numberAt 6 = .ok (.getfield 21, 3) := by decide +kernel
theorem dX3_numberAt_9 : decode cX3_numberAt 9 = .ok (.if_icmp .ge 21, 3) := by decide +kernel
theorem dX3_numberAt_12 : decode cX3_numberAt 12 = .ok (.iload_n 1, 1) := by decide +kernel
theorem dX3_numberAt_13 : decode cX3_numberAt 13 = .ok (.aload_n 0, 1) := by decide +kernel
theorem dX3_numberAt_14 : decode cX3_numberAt 14 = .ok (.getfield 9, 3) := by decide +kernel
theorem dX3_numberAt_17 : decode cX3_numberAt 17 = .ok (.arraylength, 1) := by decide +kernel
theorem dX3_numberAt_18 : decode cX3_numberAt 18 = .ok (.if_icmp .ge 12, 3) := by decide +kernel
theorem dX3_numberAt_21 : decode cX3_numberAt 21 = .ok (.aload_n 0, 1) := by decide +kernel
theorem dX3_numberAt_22 : decode cX3_numberAt 22 = .ok (.getfield 9, 3) := by decide +kernel
theorem dX3_numberAt_25 : decode cX3_numberAt 25 = .ok (.iload_n 1, 1) := by decide +kernel
theorem dX3_numberAt_26 : decode cX3_numberAt 26 = .ok (.iaload, 1) := by decide +kernel
theorem dX3_numberAt_27 : decode cX3_numberAt 27 = .ok (.goto 4, 3) := by decide +kernel
theorem dX3_numberAt_30 : decode cX3_numberAt 30 = .ok (.iconst (-1), 1) := by decide +kernel
theorem dX3_numberAt_31 : decode cX3_numberAt 31 = .ok (.ireturn, 1) := by decide +kernel
abbrev M_X3_numberAt : mM := (cX3_numberAt, 2, RX3, some .int, false, 0, 0, 0, 0)
theorem gX3_numberAt : cI yX3_numberAt M_X3_numberAt 1 := ⟨(wsl_35 _ (List.mem_of_getElem? (i := 22) rfl)), (wsl_35 _ (List.mem_of_getElem? (i := 23) rfl)), (wsl_4 _ (List.mem_of_getElem? (i := 5) rfl)), (wsl_36 _ (List.mem_of_getElem? (i := 0) rfl)), by decide +kernel⟩
noncomputable def fX3_numberAt (h : hH) (a0 a1 : Int) : Option (Int) :=
  if a1 < 0 then
    some (-1)
  else
    if a1 < h a0 0 then
      if a1 < h (h a0 2) (-1) then
        (aget h (h a0 2) a1).bind fun v26 =>
        some v26
      else
        some (-1)
    else
      some (-1)
section M_X3_numberAt
variable {p : Program} {l : Launch} {e : Env} {R : Room} {s : State} {m : MethodId} {args : Array Value} {below : List Frame} {meth : Method} {c : Code} {D : va_G} {G : gG} {A : Nat → Prop} {H0 : Heap} {n0 : Int} {x : Option vV × hH} {h : hH}
set_option maxRecDepth 100000 in
set_option maxHeartbeats 4000000 in
theorem oX3_numberAt_b0 {a0 a1 : Int} {K : Int → Prop} (k0 : ∀ r, K (r) → x = (some (0, r), h)) {r : Int} (hr : fX3_numberAt h a0 a1 = some r) (hk : K r) : Wq p l e R s m args below meth c D G A H0 true n0 M_X3_numberAt x 0 0 0 [(0, (13, a0)), (1, (0, a1))] [] h := by
  unfold fX3_numberAt at hr
  refine r_iload_n dX3_numberAt_0 rfl 1 rfl (Or.inl rfl) ?_
  refine r_if_lt dX3_numberAt_1 (tgt := 30) (by decide) (fun hc => ?_) (fun hc => ?_)
  · have hr := ifp hr hc
    refine r_iconst dX3_numberAt_30 (by decide) ?_
    obtain rfl := Option.some.inj hr
    exact r_ret dX3_numberAt_31 rfl (Or.inl ⟨rfl, rfl⟩) (k0 _ hk) ⟨rfl, rfl⟩
  · have hr := ifn hr hc
    refine r_iload_n dX3_numberAt_4 rfl 1 rfl (Or.inl rfl) ?_
    refine r_aload_n dX3_numberAt_5 rfl 0 rfl (nl rfl) ?_
    refine r_get 3 0 (o := a0) (w := (0, h a0 0)) (T := TX3) (ref := "FollowingRefs$Rows") rfl (by decide) rfl (by decide) inlX3 (wsl_22 _ (List.mem_of_getElem? (i := 23) rfl)) rfl dX3_numberAt_6 rfl ?_
    refine r_icmp_ge dX3_numberAt_9 (tgt := 30) (by decide) (fun hc => ?_) (fun hc => ?_)
    · have hr := ifn hr hc
      refine r_iconst dX3_numberAt_30 (by decide) ?_
      obtain rfl := Option.some.inj hr
      exact r_ret dX3_numberAt_31 rfl (Or.inl ⟨rfl, rfl⟩) (k0 _ hk) ⟨rfl, rfl⟩
    · have hr := ifp hr hc
      refine r_iload_n dX3_numberAt_12 rfl 1 rfl (Or.inl rfl) ?_
      refine r_aload_n dX3_numberAt_13 rfl 0 rfl (nl rfl) ?_
      refine r_get 3 2 (o := a0) (w := (50, h a0 2)) (T := TX3) (ref := "FollowingRefs$Rows") rfl (by decide) rfl (by decide) inlX3 (wsl_4 _ (List.mem_of_getElem? (i := 11) rfl)) rfl dX3_numberAt_14 rfl ?_
      refine r_alen (t := 50) (by decide) (by decide) dX3_numberAt_17 ?_
      refine r_icmp_ge dX3_numberAt_18 (tgt := 30) (by decide) (fun hc => ?_) (fun hc => ?_)
      · have hr := ifn hr hc
        refine r_iconst dX3_numberAt_30 (by decide) ?_
        obtain rfl := Option.some.inj hr
        exact r_ret dX3_numberAt_31 rfl (Or.inl ⟨rfl, rfl⟩) (k0 _ hk) ⟨rfl, rfl⟩
      · have hr := ifp hr hc
        refine r_aload_n dX3_numberAt_21 rfl 0 rfl (nl rfl) ?_
        refine r_get 3 2 (o := a0) (w := (50, h a0 2)) (T := TX3) (ref := "FollowingRefs$Rows") rfl (by decide) rfl (by decide) inlX3 (wsl_4 _ (List.mem_of_getElem? (i := 11) rfl)) rfl dX3_numberAt_22 rfl ?_
        refine r_iload_n dX3_numberAt_25 rfl 1 rfl (Or.inl rfl) ?_
        obtain ⟨v26, hg26, hr⟩ := bnd hr
        refine r_iald dX3_numberAt_26 hg26 ?_
        refine r_goto dX3_numberAt_27 (tgt := 31) (by decide) ?_
        obtain rfl := Option.some.inj hr
        exact r_ret dX3_numberAt_31 rfl (Or.inl ⟨rfl, rfl⟩) (k0 _ hk) ⟨rfl, rfl⟩
end M_X3_numberAt
theorem oX3_numberAt {l : Launch} {D : va_G} {G : gG} {h : hH} {a0 a1 : Int} {r : Int} (hr : fX3_numberAt h a0 a1 = some r) : Ctr l D G true yX3_numberAt M_X3_numberAt [(13, a0), (0, a1)] h (some (0, r), h) :=
  Ctr_of (by decide) rfl (fun z => by cases z) (nl rfl) (fun {p e R s m args below meth c A H0} => by
    exact oX3_numberAt_b0 (K := fun z9 => z9 = r) (fun r9 z => by rw [z]) hr rfl)
/-! X1_listGoing -/
theorem dX1_listGoing_0 : decode cX1_listGoing 0 = .ok (.iconst 0, 1) := by decide +kernel
theorem dX1_listGoing_1 : decode cX1_listGoing 1 = .ok (.istore_n 1, 1) := by decide +kernel
theorem dX1_listGoing_2 : decode cX1_listGoing 2 = .ok (.iload_n 1, 1) := by decide +kernel
theorem dX1_listGoing_3 : decode cX1_listGoing 3 = .ok (.aload_n 0, 1) := by decide +kernel
theorem dX1_listGoing_4 : decode cX1_listGoing 4 = .ok (.getfield 48, 3) := by decide +kernel
theorem dX1_listGoing_7 : decode cX1_listGoing 7 = .ok (.getfield 124, 3) := by decide +kernel
theorem dX1_listGoing_10 : decode cX1_listGoing 10 = .ok (.getfield 138, 3) := by decide +kernel
theorem dX1_listGoing_13 : decode cX1_listGoing 13 = .ok (.if_icmp .ge 72, 3) := by decide +kernel
theorem dX1_listGoing_16 : decode cX1_listGoing 16 = .ok (.aload_n 0, 1) := by decide +kernel
theorem dX1_listGoing_17 : decode cX1_listGoing 17 = .ok (.getfield 32, 3) := by decide +kernel
theorem dX1_listGoing_20 : decode cX1_listGoing 20 = .ok (.iload_n 1, 1) := by decide +kernel
theorem dX1_listGoing_21 : decode cX1_listGoing 21 = .ok (.invokestatic 165, 3) := by decide +kernel
theorem dX1_listGoing_24 : decode cX1_listGoing 24 = .ok (.iconst (-1), 1) := by decide +kernel
theorem dX1_listGoing_25 : decode cX1_listGoing 25 = .ok (.if_icmp .eq 54, 3) := by decide +kernel
theorem dX1_listGoing_28 : decode cX1_listGoing 28 = .ok (.aload_n 0, 1) := by decide +kernel
theorem dX1_listGoing_29 : decode cX1_listGoing 29 = .ok (.getfield 25, 3) := by decide +kernel
theorem dX1_listGoing_32 : decode cX1_listGoing 32 = .ok (.aload_n 0, 1) := by decide +kernel
theorem dX1_listGoing_33 : decode cX1_listGoing 33 = .ok (.getfield 108, 3) := by decide +kernel
theorem dX1_listGoing_36 : decode cX1_listGoing 36 = .ok (.aload_n 0, 1) := by decide +kernel
theorem dX1_listGoing_37 : decode cX1_listGoing 37 = .ok (.getfield 48, 3) := by decide +kernel
theorem dX1_listGoing_40 : decode cX1_listGoing 40 = .ok (.getfield 124, 3) := by decide +kernel
theorem dX1_listGoing_43 : decode cX1_listGoing 43 = .ok (.iload_n 1, 1) := by decide +kernel
theorem dX1_listGoing_44 : decode cX1_listGoing 44 = .ok (.invokevirtual 176, 3) := by decide +kernel
theorem dX1_listGoing_47 : decode cX1_listGoing 47 = .ok (.invokestatic 150, 3) := by decide +kernel
theorem dX1_listGoing_50 : decode cX1_listGoing 50 = .ok (.aload_n 0, 1) := by decide +kernel
theorem dX1_listGoing_51 : decode cX1_listGoing 51 = .ok (.getfield 29, 3) := by decide +kernel
theorem dX1_listGoing_54 : decode cX1_listGoing 54 = .ok (.aload_n 0, 1) := by decide +kernel
theorem dX1_listGoing_55 : decode cX1_listGoing 55 = .ok (.getfield 108, 3) := by decide +kernel
theorem dX1_listGoing_58 : decode cX1_listGoing 58 = .ok (.aload_n 0, 1) := by decide +kernel
theorem dX1_listGoing_59 : decode cX1_listGoing 59 = .ok (.getfield 32, 3) := by decide +kernel
theorem dX1_listGoing_62 : decode cX1_listGoing 62 = .ok (.iload_n 1, 1) := by decide +kernel
theorem dX1_listGoing_63 : decode cX1_listGoing 63 = .ok (.invokestatic 165, 3) := by decide +kernel
theorem dX1_listGoing_66 : decode cX1_listGoing 66 = .ok (.invokestatic 150, 3) := by decide +kernel
theorem dX1_listGoing_69 : decode cX1_listGoing 69 = .ok (.aload_n 0, 1) := by decide +kernel
theorem dX1_listGoing_70 : decode cX1_listGoing 70 = .ok (.dup, 1) := by decide +kernel
theorem dX1_listGoing_71 : decode cX1_listGoing 71 = .ok (.getfield 108, 3) := by decide +kernel
theorem dX1_listGoing_74 : decode cX1_listGoing 74 = .ok (.iconst 1, 1) := by decide +kernel
theorem dX1_listGoing_75 : decode cX1_listGoing 75 = .ok (.iadd, 1) := by decide +kernel
theorem dX1_listGoing_76 : decode cX1_listGoing 76 = .ok (.putfield 108, 3) := by decide +kernel
theorem dX1_listGoing_79 : decode cX1_listGoing 79 = .ok (.iinc 1 1, 3) := by decide +kernel
theorem dX1_listGoing_82 : decode cX1_listGoing 82 = .ok (.goto (-80), 3) := by decide +kernel
theorem dX1_listGoing_85 : decode cX1_listGoing 85 = .ok (.return_, 1) := by decide +kernel
abbrev M_X1_listGoing : mM := (cX1_listGoing, 2, RX1, none, false, 1, 22, 0, 0)
theorem gX1_listGoing : cI yX1_listGoing M_X1_listGoing 0 := ⟨(wsl_35 _ (List.mem_of_getElem? (i := 18) rfl)), (wsl_35 _ (List.mem_of_getElem? (i := 19) rfl)), (wsl_2 _ (List.mem_of_getElem? (i := 19) rfl)), (wsl_35 _ (List.mem_of_getElem? (i := 20) rfl)), by decide +kernel⟩
noncomputable def fX1_listGoing_s2 (h0 : hH) (a0 : Int) : hH × Int → Option ((hH × Int) ⊕ (hH)) := fun (h, l1) =>
  if l1 < h (h (h a0 1) 0) 0 then
    (fX11_at h (h a0 13) l1).bind fun r21 =>
    if r21 = -1 then
      some (.inl (h, w32 (l1 + 1)))
    else
      (fX3_numberAt h (h (h a0 1) 0) l1).bind fun r44 =>
      (fX11_put h (h a0 11) (h a0 7) r44).bind fun h47 =>
      (fX11_at h47 (h47 a0 13) l1).bind fun r63 =>
      (fX11_put h47 (h47 a0 12) (h47 a0 7) r63).bind fun h66 =>
      (pput h66 a0 7 (w32 ((h66 a0 7) + 1))).bind fun h76 =>
      some (.inl (h76, w32 (l1 + 1)))
  else
    some (.inr (h))
noncomputable def fX1_listGoing (h : hH) (a0 : Int) : Option (hH) :=
  lpO (fX1_listGoing_s2 h a0) (h, 0)
section M_X1_listGoing
variable {p : Program} {l : Launch} {e : Env} {R : Room} {s : State} {m : MethodId} {args : Array Value} {below : List Frame} {meth : Method} {c : Code} {D : va_G} {G : gG} {A : Nat → Prop} {H0 : Heap} {n0 : Int} {x : Option vV × hH} {h : hH}
set_option maxRecDepth 100000 in
set_option maxHeartbeats 4000000 in
theorem oX1_listGoing_s2 {h0 : hH} {a0 l1 : Int} {K : (hH × Int) ⊕ (hH) → Prop} (k0 : ∀ r, K (.inr (r)) → x = (none, r)) (k1 : ∀ (h : hH) (l1 : Int), K (.inl (h, l1)) → Wq p l e R s m args below meth c D G A H0 true n0 M_X1_listGoing x 0 0 2 [(0, (11, a0)), (1, (0, l1))] [] h) {r : (hH × Int) ⊕ (hH)} (hr : fX1_listGoing_s2 h0 a0 (h, l1) = some r) (hk : K r) : Wq p l e R s m args below meth c D G A H0 true n0 M_X1_listGoing x 0 0 2 [(0, (11, a0)), (1, (0, l1))] [] h := by
  unfold fX1_listGoing_s2 at hr
  refine r_iload_n dX1_listGoing_2 rfl 1 rfl (Or.inl rfl) ?_
  refine r_aload_n dX1_listGoing_3 rfl 0 rfl (nl rfl) ?_
  refine r_get 1 1 (o := a0) (w := (18, h a0 1)) (T := TX1) (ref := "FollowingRefs$Judge") rfl (by decide) rfl (by decide) inlX1 (wsl_6 _ (List.mem_of_getElem? (i := 9) rfl)) rfl dX1_listGoing_4 rfl ?_
  refine r_get 8 0 (o := h a0 1) (w := (13, h (h a0 1) 0)) (T := TX8) (ref := "FollowingRefs$State") rfl (by decide) rfl (by decide) inlX8 (wsl_32 _ (List.mem_of_getElem? (i := 22) rfl)) rfl dX1_listGoing_7 rfl ?_
  refine r_get 3 0 (o := h (h a0 1) 0) (w := (0, h (h (h a0 1) 0) 0)) (T := TX3) (ref := "FollowingRefs$Rows") rfl (by decide) rfl (by decide) inlX3 (wsl_33 _ (List.mem_of_getElem? (i := 20) rfl)) rfl dX1_listGoing_10 rfl ?_
  refine r_icmp_ge dX1_listGoing_13 (tgt := 85) (by decide) (fun hc => ?_) (fun hc => ?_)
  · have hr := ifn hr hc
    obtain rfl := Option.some.inj hr
    exact r_vret dX1_listGoing_85 rfl (k0 _ hk) ⟨rfl, rfl⟩
  · have hr := ifp hr hc
    refine r_aload_n dX1_listGoing_16 rfl 0 rfl (nl rfl) ?_
    refine r_get 1 13 (o := a0) (w := (50, h a0 13)) (T := TX1) (ref := "FollowingRefs$Judge") rfl (by decide) rfl (by decide) inlX1 (wsl_6 _ (List.mem_of_getElem? (i := 4) rfl)) rfl dX1_listGoing_17 rfl ?_
    refine r_iload_n dX1_listGoing_20 rfl 1 rfl (Or.inl rfl) ?_
    obtain ⟨r21, hg21, hr⟩ := bnd hr
    refine k_SN (host := "FollowingRefs") (as := [(50, h a0 13), (0, l1)]) (rest := []) (X := (some (0, r21), h)) (oX11_at hg21) gX11_at rfl (List.mem_of_getElem? (i := 6) rfl) rfl dX1_listGoing_21 rfl ?_
    refine r_iconst dX1_listGoing_24 (by decide) ?_
    refine r_icmp_eq dX1_listGoing_25 (tgt := 79) (by decide) (fun hc => ?_) (fun hc => ?_)
    · have hr := ifp hr hc
      refine r_iinc (k := 1) (v := l1) dX1_listGoing_79 rfl (by decide) (lv' := [(1, (0, w32 (l1 + 1))), (0, (11, a0))]) rfl ?_
      refine r_goto dX1_listGoing_82 (tgt := 2) (by decide) ?_
      refine r_sub [1, 0] (lv' := [(0, (11, a0)), (1, (0, w32 (l1 + 1)))]) rfl ?_
      obtain rfl := Option.some.inj hr
      exact k1 _ _ hk
    · have hr := ifn hr hc
      refine r_aload_n dX1_listGoing_28 rfl 0 rfl (nl rfl) ?_
      refine r_get 1 11 (o := a0) (w := (50, h a0 11)) (T := TX1) (ref := "FollowingRefs$Judge") rfl (by decide) rfl (by decide) inlX1 (wsl_6 _ (List.mem_of_getElem? (i := 2) rfl)) rfl dX1_listGoing_29 rfl ?_
      refine r_aload_n dX1_listGoing_32 rfl 0 rfl (nl rfl) ?_
      refine r_get 1 7 (o := a0) (w := (0, h a0 7)) (T := TX1) (ref := "FollowingRefs$Judge") rfl (by decide) rfl (by decide) inlX1 (wsl_32 _ (List.mem_of_getElem? (i := 8) rfl)) rfl dX1_listGoing_33 rfl ?_
      refine r_aload_n dX1_listGoing_36 rfl 0 rfl (nl rfl) ?_
      refine r_get 1 1 (o := a0) (w := (18, h a0 1)) (T := TX1) (ref := "FollowingRefs$Judge") rfl (by decide) rfl (by decide) inlX1 (wsl_6 _ (List.mem_of_getElem? (i := 9) rfl)) rfl dX1_listGoing_37 rfl ?_
      refine r_get 8 0 (o := h a0 1) (w := (13, h (h a0 1) 0)) (T := TX8) (ref := "FollowingRefs$State") rfl (by decide) rfl (by decide) inlX8 (wsl_32 _ (List.mem_of_getElem? (i := 22) rfl)) rfl dX1_listGoing_40 rfl ?_
      refine r_iload_n dX1_listGoing_43 rfl 1 rfl (Or.inl rfl) ?_
      obtain ⟨r44, hg44, hr⟩ := bnd hr
      refine k_V (ci := 3) (o := h (h a0 1) 0) (T := TX3) (as := [(0, l1)]) (rest := [(0, h a0 7), (50, h a0 11)]) (X := (some (0, r44), h)) (oX3_numberAt hg44) gX3_numberAt rfl (by decide) rfl (wsl_35 _ (List.mem_of_getElem? (i := 21) rfl)) rfl dX1_listGoing_44 rfl ?_
      obtain ⟨h47, hg47, hr⟩ := bnd hr
      refine k_SN (host := "FollowingRefs") (as := [(50, h a0 11), (0, h a0 7), (0, r44)]) (rest := []) (X := (none, h47)) (oX11_put hg47) gX11_put rfl (List.mem_of_getElem? (i := 5) rfl) rfl dX1_listGoing_47 rfl ?_
      refine r_aload_n dX1_listGoing_50 rfl 0 rfl (nl rfl) ?_
      refine r_get 1 12 (o := a0) (w := (50, h47 a0 12)) (T := TX1) (ref := "FollowingRefs$Judge") rfl (by decide) rfl (by decide) inlX1 (wsl_6 _ (List.mem_of_getElem? (i := 3) rfl)) rfl dX1_listGoing_51 rfl ?_
      refine r_aload_n dX1_listGoing_54 rfl 0 rfl (nl rfl) ?_
      refine r_get 1 7 (o := a0) (w := (0, h47 a0 7)) (T := TX1) (ref := "FollowingRefs$Judge") rfl (by decide) rfl (by decide) inlX1 (wsl_32 _ (List.mem_of_getElem? (i := 8) rfl)) rfl dX1_listGoing_55 rfl ?_
      refine r_aload_n dX1_listGoing_58 rfl 0 rfl (nl rfl) ?_
      refine r_get 1 13 (o := a0) (w := (50, h47 a0 13)) (T := TX1) (ref := "FollowingRefs$Judge") rfl (by decide) rfl (by decide) inlX1 (wsl_6 _ (List.mem_of_getElem? (i := 4) rfl)) rfl dX1_listGoing_59 rfl ?_
      refine r_iload_n dX1_listGoing_62 rfl 1 rfl (Or.inl rfl) ?_
      obtain ⟨r63, hg63, hr⟩ := bnd hr
      refine k_SN (host := "FollowingRefs") (as := [(50, h47 a0 13), (0, l1)]) (rest := [(0, h47 a0 7), (50, h47 a0 12)]) (X := (some (0, r63), h47)) (oX11_at hg63) gX11_at rfl (List.mem_of_getElem? (i := 6) rfl) rfl dX1_listGoing_63 rfl ?_
      obtain ⟨h66, hg66, hr⟩ := bnd hr
      refine k_SN (host := "FollowingRefs") (as := [(50, h47 a0 12), (0, h47 a0 7), (0, r63)]) (rest := []) (X := (none, h66)) (oX11_put hg66) gX11_put rfl (List.mem_of_getElem? (i := 5) rfl) rfl dX1_listGoing_66 rfl ?_
      refine r_aload_n dX1_listGoing_69 rfl 0 rfl (nl rfl) ?_
      refine r_dup dX1_listGoing_70 (Nat.ne_of_beq_eq_false rfl) ?_
      refine r_get 1 7 (o := a0) (w := (0, h66 a0 7)) (T := TX1) (ref := "FollowingRefs$Judge") rfl (by decide) rfl (by decide) inlX1 (wsl_32 _ (List.mem_of_getElem? (i := 8) rfl)) rfl dX1_listGoing_71 rfl ?_
      refine r_iconst dX1_listGoing_74 (by decide) ?_
      refine r_iadd dX1_listGoing_75 ?_
      obtain ⟨h76, hg76, hr⟩ := bnd hr
      refine r_put' 1 7 (t := 0) (ref := "FollowingRefs$Judge") hg76 rfl tyX1 tyX1_ok nmX1 rfl (by decide) rfl (by decide) inlX1 (wsl_32 _ (List.mem_of_getElem? (i := 8) rfl)) rfl rfl (by decide +kernel) (by decide) rfl (Or.inl ⟨rfl, rfl⟩) dX1_listGoing_76 ?_
      refine r_iinc (k := 1) (v := l1) dX1_listGoing_79 rfl (by decide) (lv' := [(1, (0, w32 (l1 + 1))), (0, (11, a0))]) rfl ?_
      refine r_goto dX1_listGoing_82 (tgt := 2) (by decide) ?_
      refine r_sub [1, 0] (lv' := [(0, (11, a0)), (1, (0, w32 (l1 + 1)))]) rfl ?_
      obtain rfl := Option.some.inj hr
      exact k1 _ _ hk
set_option maxRecDepth 100000 in
set_option maxHeartbeats 4000000 in
theorem oX1_listGoing_b0 {a0 : Int} {K : hH → Prop} (k0 : ∀ r, K (r) → x = (none, r)) {r : hH} (hr : fX1_listGoing h a0 = some r) (hk : K r) : Wq p l e R s m args below meth c D G A H0 true n0 M_X1_listGoing x 0 0 0 [(0, (11, a0))] [] h := by
  unfold fX1_listGoing at hr
  refine r_iconst dX1_listGoing_0 (by decide) ?_
  refine r_istore_n dX1_listGoing_1 rfl (Or.inl rfl) (by decide) (lv' := [(1, (0, 0)), (0, (11, a0))]) rfl ?_
  refine r_sub [1, 0] (lv' := [(0, (11, a0)), (1, (0, 0))]) rfl ?_
  exact lp_ok (w := fun (q : hH × Int) => Wq p l e R s m args below meth c D G A H0 true n0 M_X1_listGoing x 0 0 2 [(0, (11, a0)), (1, (0, q.2))] [] (q.1)) (K := K) (fun ⟨q0, q1⟩ r h1 h2 => oX1_listGoing_s2 (K := Sum.elim (fun (q : hH × Int) => Wq p l e R s m args below meth c D G A H0 true n0 M_X1_listGoing x 0 0 2 [(0, (11, a0)), (1, (0, q.2))] [] (q.1)) (K)) (fun r z => k0 r z) (fun _ _ z => z) h1 h2) hr hk
end M_X1_listGoing
theorem oX1_listGoing {l : Launch} {D : va_G} {G : gG} {h : hH} {a0 : Int} {r : hH} (hr : fX1_listGoing h a0 = some r) : Ctr l D G true yX1_listGoing M_X1_listGoing [(11, a0)] h (none, r) :=
  Ctr_of (by decide) rfl (fun z => by cases z) (nl rfl) (fun {p e R s m args below meth c A H0} => by
    exact oX1_listGoing_b0 (K := fun z9 => z9 = r) (fun r9 z => by rw [z]) hr rfl)
/-! X1_wantedOf -/
theorem dX1_wantedOf_0 : decode cX1_wantedOf 0 = .ok (.aload_n 0, 1) := by decide +kernel
theorem dX1_wantedOf_1 : decode cX1_wantedOf 1 = .ok (.getfield 41, 3) := by decide +kernel
theorem dX1_wantedOf_4 : decode cX1_wantedOf 4 = .ok (.iload_n 1, 1) := by decide +kernel
theorem dX1_wantedOf_5 : decode cX1_wantedOf 5 = .ok (.iconst 4, 1) := by decide +kernel
theorem dX1_wantedOf_6 : decode cX1_wantedOf 6 = .ok (.imul, 1) := by decide +kernel
theorem dX1_wantedOf_7 : decode cX1_wantedOf 7 = .ok (.iload_n 2, 1) := by decide +kernel
theorem dX1_wantedOf_8 : decode cX1_wantedOf 8 = .ok (.iadd, 1) := by decide +kernel
theorem dX1_wantedOf_9 : decode cX1_wantedOf 9 = .ok (.invokestatic 165, 3) := by decide +kernel
theorem dX1_wantedOf_12 : decode cX1_wantedOf 12 = .ok (.ireturn, 1) := by decide +kernel
abbrev M_X1_wantedOf : mM := (cX1_wantedOf, 3, RX1, some .int, false, 1, 21, 0, 0)
theorem gX1_wantedOf : cI yX1_wantedOf M_X1_wantedOf 2 := ⟨(wsl_36 _ (List.mem_of_getElem? (i := 15) rfl)), (wsl_36 _ (List.mem_of_getElem? (i := 16) rfl)), (wsl_2 _ (List.mem_of_getElem? (i := 19) rfl)), (wsl_36 _ (List.mem_of_getElem? (i := 17) rfl)), by decide +kernel⟩
noncomputable def fX1_wantedOf (h : hH) (a0 a1 a2 : Int) : Option (Int) :=
  (fX11_at h (h a0 16) (w32 ((w32 (a1 * 4)) + a2))).bind fun r9 =>
  some r9
section M_X1_wantedOf
variable {p : Program} {l : Launch} {e : Env} {R : Room} {s : State} {m : MethodId} {args : Array Value} {below : List Frame} {meth : Method} {c : Code} {D : va_G} {G : gG} {A : Nat → Prop} {H0 : Heap} {n0 : Int} {x : Option vV × hH} {h : hH}
set_option maxRecDepth 100000 in
set_option maxHeartbeats 4000000 in
theorem oX1_wantedOf_b0 {a0 a1 a2 : Int} {K : Int → Prop} (k0 : ∀ r, K (r) → x = (some (0, r), h)) {r : Int} (hr : fX1_wantedOf h a0 a1 a2 = some r) (hk : K r) : Wq p l e R s m args below meth c D G A H0 true n0 M_X1_wantedOf x 0 0 0 [(0, (11, a0)), (1, (0, a1)), (2, (0, a2))] [] h := by
  unfold fX1_wantedOf at hr
  refine r_aload_n dX1_wantedOf_0 rfl 0 rfl (nl rfl) ?_
  refine r_get 1 16 (o := a0) (w := (50, h a0 16)) (T := TX1) (ref := "FollowingRefs$Judge") rfl (by decide) rfl (by decide) inlX1 (wsl_6 _ (List.mem_of_getElem? (i := 7) rfl)) rfl dX1_wantedOf_1 rfl ?_
  refine r_iload_n dX1_wantedOf_4 rfl 1 rfl (Or.inl rfl) ?_
  refine r_iconst dX1_wantedOf_5 (by decide) ?_
  refine r_imul dX1_wantedOf_6 ?_
  refine r_iload_n dX1_wantedOf_7 rfl 2 rfl (Or.inl rfl) ?_
  refine r_iadd dX1_wantedOf_8 ?_
  obtain ⟨r9, hg9, hr⟩ := bnd hr
  refine k_SN (host := "FollowingRefs") (as := [(50, h a0 16), (0, w32 ((w32 (a1 * 4)) + a2))]) (rest := []) (X := (some (0, r9), h)) (oX11_at hg9) gX11_at rfl (List.mem_of_getElem? (i := 6) rfl) rfl dX1_wantedOf_9 rfl ?_
  obtain rfl := Option.some.inj hr
  exact r_ret dX1_wantedOf_12 rfl (Or.inl ⟨rfl, rfl⟩) (k0 _ hk) ⟨rfl, rfl⟩
end M_X1_wantedOf
theorem oX1_wantedOf {l : Launch} {D : va_G} {G : gG} {h : hH} {a0 a1 a2 : Int} {r : Int} (hr : fX1_wantedOf h a0 a1 a2 = some r) : Ctr l D G true yX1_wantedOf M_X1_wantedOf [(11, a0), (0, a1), (0, a2)] h (some (0, r), h) :=
  Ctr_of (by decide) rfl (fun z => by cases z) (nl rfl) (fun {p e R s m args below meth c A H0} => by
    exact oX1_wantedOf_b0 (K := fun z9 => z9 = r) (fun r9 z => by rw [z]) hr rfl)
/-! X1_becomesAnother -/
theorem dX1_becomesAnother_0 : decode cX1_becomesAnother 0 = .ok (.iload_n 2, 1) := by decide +kernel
theorem dX1_becomesAnother_1 : decode cX1_becomesAnother 1 = .ok (.iconst (-1), 1) := by decide +kernel
theorem dX1_becomesAnother_2 : decode cX1_becomesAnother 2 = .ok (.if_icmp .eq 44, 3) := by decide +kernel
theorem dX1_becomesAnother_5 : decode cX1_becomesAnother 5 = .ok (.aload_n 0, 1) := by decide +kernel
theorem dX1_becomesAnother_6 : decode cX1_becomesAnother 6 = .ok (.getfield 38, 3) := by decide +kernel
theorem dX1_becomesAnother_9 : decode cX1_becomesAnother 9 = .ok (.iload_n 1, 1) := by decide +kernel
theorem dX1_becomesAnother_10 : decode cX1_becomesAnother 10 = .ok (.iconst 4, 1) := by decide +kernel
theorem dX1_becomesAnother_11 : decode cX1_becomesAnother 11 = .ok (.imul, 1) := by decide +kernel
theorem dX1_becomesAnother_12 : decode cX1_becomesAnother 12 = .ok (.iload_n 2, 1) := by decide +kernel
theorem dX1_becomesAnother_13 : decode cX1_becomesAnother 13 = .ok (.iadd, 1) := by decide +kernel
theorem dX1_becomesAnother_14 : decode cX1_becomesAnother 14 = .ok (.invokestatic 165, 3) := by decide +kernel
theorem dX1_becomesAnother_17 : decode cX1_becomesAnother 17 = .ok (.iconst 1, 1) := by decide +kernel
theorem dX1_becomesAnother_18 : decode cX1_becomesAnother 18 = .ok (.if_icmp .ne 28, 3) := by decide +kernel
theorem dX1_becomesAnother_21 : decode cX1_becomesAnother 21 = .ok (.aload_n 0, 1) := by decide +kernel
theorem dX1_becomesAnother_22 : decode cX1_becomesAnother 22 = .ok (.iload_n 1, 1) := by decide +kernel
theorem dX1_becomesAnother_23 : decode cX1_becomesAnother 23 = .ok (.iload_n 2, 1) := by decide +kernel
theorem dX1_becomesAnother_24 : decode cX1_becomesAnother 24 = .ok (.invokevirtual 189, 3) := by decide +kernel
theorem dX1_becomesAnother_27 : decode cX1_becomesAnother 27 = .ok (.aload_n 0, 1) := by decide +kernel
theorem dX1_becomesAnother_28 : decode cX1_becomesAnother 28 = .ok (.getfield 48, 3) := by decide +kernel
theorem dX1_becomesAnother_31 : decode cX1_becomesAnother 31 = .ok (.getfield 124, 3) := by decide +kernel
theorem dX1_becomesAnother_34 : decode cX1_becomesAnother 34 = .ok (.iload_n 1, 1) := by decide +kernel
theorem dX1_becomesAnother_35 : decode cX1_becomesAnother 35 = .ok (.iload_n 2, 1) := by decide +kernel
theorem dX1_becomesAnother_36 : decode cX1_becomesAnother 36 = .ok (.invokevirtual 195, 3) := by decide +kernel
theorem dX1_becomesAnother_39 : decode cX1_becomesAnother 39 = .ok (.if_icmp .eq 7, 3) := by decide +kernel
theorem dX1_becomesAnother_42 : decode cX1_becomesAnother 42 = .ok (.iconst 1, 1) := by decide +kernel
theorem dX1_becomesAnother_43 : decode cX1_becomesAnother 43 = .ok (.goto 4, 3) := by decide +kernel
theorem dX1_becomesAnother_46 : decode cX1_becomesAnother 46 = .ok (.iconst 0, 1) := by decide +kernel
theorem dX1_becomesAnother_47 : decode cX1_becomesAnother 47 = .ok (.ireturn, 1) := by decide +kernel
abbrev M_X1_becomesAnother : mM := (cX1_becomesAnother, 3, RX1, some .boolean, false, 2, 43, 0, 0)
theorem gX1_becomesAnother : cI yX1_becomesAnother M_X1_becomesAnother 2 := ⟨(wsl_36 _ (List.mem_of_getElem? (i := 11) rfl)), (wsl_36 _ (List.mem_of_getElem? (i := 12) rfl)), (wsl_2 _ (List.mem_of_getElem? (i := 19) rfl)), (wsl_36 _ (List.mem_of_getElem? (i := 13) rfl)), by decide +kernel⟩
noncomputable def fX1_becomesAnother (h : hH) (a0 a1 a2 : Int) : Option (Int) :=
  if a2 = -1 then
    some 0
  else
    (fX11_at h (h a0 15) (w32 ((w32 (a1 * 4)) + a2))).bind fun r14 =>
    if r14 = 1 then
      (fX1_wantedOf h a0 a1 a2).bind fun r24 =>
      (fX3_value h (h (h a0 1) 0) a1 a2).bind fun r36 =>
      if r24 = r36 then
        some 0
      else
        some 1
    else
      some 0
section M_X1_becomesAnother
variable {p : Program} {l : Launch} {e : Env} {R : Room} {s : State} {m : MethodId} {args : Array Value} {below : List Frame} {meth : Method} {c : Code} {D : va_G} {G : gG} {A : Nat → Prop} {H0 : Heap} {n0 : Int} {x : Option vV × hH} {h : hH}
set_option maxRecDepth 100000 in
set_option maxHeartbeats 4000000 in
theorem oX1_becomesAnother_b0 {a0 a1 a2 : Int} {K : Int → Prop} (k0 : ∀ r, K (r) → x = (some (2, r), h)) {r : Int} (hr : fX1_becomesAnother h a0 a1 a2 = some r) (hk : K r) : Wq p l e R s m args below meth c D G A H0 true n0 M_X1_becomesAnother x 0 0 0 [(0, (11, a0)), (1, (0, a1)), (2, (0, a2))] [] h := by
  unfold fX1_becomesAnother at hr
  refine r_iload_n dX1_becomesAnother_0 rfl 2 rfl (Or.inl rfl) ?_
  refine r_iconst dX1_becomesAnother_1 (by decide) ?_
  refine r_icmp_eq dX1_becomesAnother_2 (tgt := 46) (by decide) (fun hc => ?_) (fun hc => ?_)
  · have hr := ifp hr hc
    refine r_iconst dX1_becomesAnother_46 (by decide) ?_
    refine r_scast 0 (v := (0, 0)) (w := (2, 0)) rfl cz (fun _ => Or.inl rfl) (st' := [(2, 0)]) rfl ?_
    obtain rfl := Option.some.inj hr
    exact r_ret dX1_becomesAnother_47 rfl (Or.inr ⟨rfl, rfl⟩) (k0 _ hk) ⟨rfl, rfl⟩
  · have hr := ifn hr hc
    refine r_aload_n dX1_becomesAnother_5 rfl 0 rfl (nl rfl) ?_
    refine r_get 1 15 (o := a0) (w := (50, h a0 15)) (T := TX1) (ref := "FollowingRefs$Judge") rfl (by decide) rfl (by decide) inlX1 (wsl_6 _ (List.mem_of_getElem? (i := 6) rfl)) rfl dX1_becomesAnother_6 rfl ?_
    refine r_iload_n dX1_becomesAnother_9 rfl 1 rfl (Or.inl rfl) ?_
    refine r_iconst dX1_becomesAnother_10 (by decide) ?_
    refine r_imul dX1_becomesAnother_11 ?_
    refine r_iload_n dX1_becomesAnother_12 rfl 2 rfl (Or.inl rfl) ?_
    refine r_iadd dX1_becomesAnother_13 ?_
    obtain ⟨r14, hg14, hr⟩ := bnd hr
    refine k_SN (host := "FollowingRefs") (as := [(50, h a0 15), (0, w32 ((w32 (a1 * 4)) + a2))]) (rest := []) (X := (some (0, r14), h)) (oX11_at hg14) gX11_at rfl (List.mem_of_getElem? (i := 6) rfl) rfl dX1_becomesAnother_14 rfl ?_
    refine r_iconst dX1_becomesAnother_17 (by decide) ?_
    refine r_icmp_ne dX1_becomesAnother_18 (tgt := 46) (by decide) (fun hc => ?_) (fun hc => ?_)
    · have hr := ifn hr hc
      refine r_iconst dX1_becomesAnother_46 (by decide) ?_
      refine r_scast 0 (v := (0, 0)) (w := (2, 0)) rfl cz (fun _ => Or.inl rfl) (st' := [(2, 0)]) rfl ?_
      obtain rfl := Option.some.inj hr
      exact r_ret dX1_becomesAnother_47 rfl (Or.inr ⟨rfl, rfl⟩) (k0 _ hk) ⟨rfl, rfl⟩
    · have hr := ifp hr hc
      refine r_aload_n dX1_becomesAnother_21 rfl 0 rfl (nl rfl) ?_
      refine r_iload_n dX1_becomesAnother_22 rfl 1 rfl (Or.inl rfl) ?_
      refine r_iload_n dX1_becomesAnother_23 rfl 2 rfl (Or.inl rfl) ?_
      obtain ⟨r24, hg24, hr⟩ := bnd hr
      refine k_V (ci := 1) (o := a0) (T := TX1) (as := [(0, a1), (0, a2)]) (rest := []) (X := (some (0, r24), h)) (oX1_wantedOf hg24) gX1_wantedOf rfl (by decide) rfl (wsl_36 _ (List.mem_of_getElem? (i := 14) rfl)) rfl dX1_becomesAnother_24 rfl ?_
      refine r_aload_n dX1_becomesAnother_27 rfl 0 rfl (nl rfl) ?_
      refine r_get 1 1 (o := a0) (w := (18, h a0 1)) (T := TX1) (ref := "FollowingRefs$Judge") rfl (by decide) rfl (by decide) inlX1 (wsl_6 _ (List.mem_of_getElem? (i := 9) rfl)) rfl dX1_becomesAnother_28 rfl ?_
      refine r_get 8 0 (o := h a0 1) (w := (13, h (h a0 1) 0)) (T := TX8) (ref := "FollowingRefs$State") rfl (by decide) rfl (by decide) inlX8 (wsl_32 _ (List.mem_of_getElem? (i := 22) rfl)) rfl dX1_becomesAnother_31 rfl ?_
      refine r_iload_n dX1_becomesAnother_34 rfl 1 rfl (Or.inl rfl) ?_
      refine r_iload_n dX1_becomesAnother_35 rfl 2 rfl (Or.inl rfl) ?_
      obtain ⟨r36, hg36, hr⟩ := bnd hr
      refine k_V (ci := 3) (o := h (h a0 1) 0) (T := TX3) (as := [(0, a1), (0, a2)]) (rest := [(0, r24)]) (X := (some (0, r36), h)) (oX3_value hg36) gX3_value rfl (by decide) rfl (wsl_36 _ (List.mem_of_getElem? (i := 18) rfl)) rfl dX1_becomesAnother_36 rfl ?_
      refine r_icmp_eq dX1_becomesAnother_39 (tgt := 46) (by decide) (fun hc => ?_) (fun hc => ?_)
      · have hr := ifp hr hc
        refine r_iconst dX1_becomesAnother_46 (by decide) ?_
        refine r_scast 0 (v := (0, 0)) (w := (2, 0)) rfl cz (fun _ => Or.inl rfl) (st' := [(2, 0)]) rfl ?_
        obtain rfl := Option.some.inj hr
        exact r_ret dX1_becomesAnother_47 rfl (Or.inr ⟨rfl, rfl⟩) (k0 _ hk) ⟨rfl, rfl⟩
      · have hr := ifn hr hc
        refine r_iconst dX1_becomesAnother_42 (by decide) ?_
        refine r_goto dX1_becomesAnother_43 (tgt := 47) (by decide) ?_
        refine r_scast 0 (v := (0, 1)) (w := (2, 1)) rfl cz (fun _ => Or.inr rfl) (st' := [(2, 1)]) rfl ?_
        obtain rfl := Option.some.inj hr
        exact r_ret dX1_becomesAnother_47 rfl (Or.inr ⟨rfl, rfl⟩) (k0 _ hk) ⟨rfl, rfl⟩
end M_X1_becomesAnother
theorem oX1_becomesAnother {l : Launch} {D : va_G} {G : gG} {h : hH} {a0 a1 a2 : Int} {r : Int} (hr : fX1_becomesAnother h a0 a1 a2 = some r) : Ctr l D G true yX1_becomesAnother M_X1_becomesAnother [(11, a0), (0, a1), (0, a2)] h (some (2, r), h) :=
  Ctr_of (by decide) rfl (fun z => by cases z) (nl rfl) (fun {p e R s m args below meth c A H0} => by
    exact oX1_becomesAnother_b0 (K := fun z9 => z9 = r) (fun r9 z => by rw [z]) hr rfl)
/-! X4_width -/
theorem dX4_width_0 : decode cX4_width 0 = .ok (.iload_n 1, 1) := by decide +kernel
theorem dX4_width_1 : decode cX4_width 1 = .ok (.ifCond .lt 29, 3) := by decide +kernel
theorem dX4_width_4 : decode cX4_width 4 = .ok (.iload_n 1, 1) := by decide +kernel
theorem dX4_width_5 : decode cX4_width 5 = .ok (.aload_n 0, 1) := by decide +kernel
theorem dX4_width_6 : decode cX4_width 6 = .ok (.getfield 37, 3) := by decide +kernel
theorem dX4_width_9 : decode cX4_width 9 = .ok (.if_icmp .ge 21, 3) := by decide +kernel
theorem dX4_width_12 : decode cX4_width 12 = .ok (.iload_n 1, 1) := by decide +kernel
theorem dX4_width_13 : decode cX4_width 13 = .ok (.aload_n 0, 1) := by decide +kernel
theorem dX4_width_14 : decode cX4_width 14 = .ok (.getfield 15, 3) := by decide +kernel
theorem dX4_width_17 : decode cX4_width 17 = .ok (.arraylength, 1) := by decide +kernel
theorem dX4_width_18 : decode cX4_width 18 = .ok (.if_icmp .ge 12, 3) := by decide +kernel
theorem dX4_width_21 : decode cX4_width 21 = .ok (.aload_n 0, 1) := by decide +kernel
theorem dX4_width_22 : decode cX4_width 22 = .ok (.getfield 15, 3) := by decide +kernel
theorem dX4_width_25 : decode cX4_width 25 = .ok (.iload_n 1, 1) := by decide +kernel
theorem dX4_width_26 : decode cX4_width 26 = .ok (.iaload, 1) := by decide +kernel
theorem dX4_width_27 : decode cX4_width 27 = .ok (.goto 4, 3) := by decide +kernel
theorem dX4_width_30 : decode cX4_width 30 = .ok (.iconst 0, 1) := by decide +kernel
theorem dX4_width_31 : decode cX4_width 31 = .ok (.ireturn, 1) := by decide +kernel
abbrev M_X4_width : mM := (cX4_width, 2, RX4, some .int, false, 0, 0, 0, 0)
theorem gX4_width : cI yX4_width M_X4_width 1 := ⟨(wsl_17 _ (List.mem_of_getElem? (i := 15) rfl)), (wsl_17 _ (List.mem_of_getElem? (i := 16) rfl)), (wsl_1 _ (List.mem_of_getElem? (i := 19) rfl)), (wsl_17 _ (List.mem_of_getElem? (i := 17) rfl)), by decide +kernel⟩
noncomputable def fX4_width (h : hH) (a0 a1 : Int) : Option (Int) :=
  if a1 < 0 then
    some 0
  else
    if a1 < h a0 0 then
      if a1 < h (h a0 5) (-1) then
        (aget h (h a0 5) a1).bind fun v26 =>
        some v26
      else
        some 0
    else
      some 0
section M_X4_width
variable {p : Program} {l : Launch} {e : Env} {R : Room} {s : State} {m : MethodId} {args : Array Value} {below : List Frame} {meth : Method} {c : Code} {D : va_G} {G : gG} {A : Nat → Prop} {H0 : Heap} {n0 : Int} {x : Option vV × hH} {h : hH}
set_option maxRecDepth 100000 in
set_option maxHeartbeats 4000000 in
theorem oX4_width_b0 {a0 a1 : Int} {K : Int → Prop} (k0 : ∀ r, K (r) → x = (some (0, r), h)) {r : Int} (hr : fX4_width h a0 a1 = some r) (hk : K r) : Wq p l e R s m args below meth c D G A H0 true n0 M_X4_width x 0 0 0 [(0, (14, a0)), (1, (0, a1))] [] h := by
  unfold fX4_width at hr
  refine r_iload_n dX4_width_0 rfl 1 rfl (Or.inl rfl) ?_
  refine r_if_lt dX4_width_1 (tgt := 30) (by decide) (fun hc => ?_) (fun hc => ?_)
  · have hr := ifp hr hc
    refine r_iconst dX4_width_30 (by decide) ?_
    obtain rfl := Option.some.inj hr
    exact r_ret dX4_width_31 rfl (Or.inl ⟨rfl, rfl⟩) (k0 _ hk) ⟨rfl, rfl⟩
  · have hr := ifn hr hc
    refine r_iload_n dX4_width_4 rfl 1 rfl (Or.inl rfl) ?_
    refine r_aload_n dX4_width_5 rfl 0 rfl (nl rfl) ?_
    refine r_get 4 0 (o := a0) (w := (0, h a0 0)) (T := TX4) (ref := "FollowingRefs$Schema") rfl (by decide) rfl (by decide) inlX4 (wsl_11 _ (List.mem_of_getElem? (i := 19) rfl)) rfl dX4_width_6 rfl ?_
    refine r_icmp_ge dX4_width_9 (tgt := 30) (by decide) (fun hc => ?_) (fun hc => ?_)
    · have hr := ifn hr hc
      refine r_iconst dX4_width_30 (by decide) ?_
      obtain rfl := Option.some.inj hr
      exact r_ret dX4_width_31 rfl (Or.inl ⟨rfl, rfl⟩) (k0 _ hk) ⟨rfl, rfl⟩
    · have hr := ifp hr hc
      refine r_iload_n dX4_width_12 rfl 1 rfl (Or.inl rfl) ?_
      refine r_aload_n dX4_width_13 rfl 0 rfl (nl rfl) ?_
      refine r_get 4 5 (o := a0) (w := (50, h a0 5)) (T := TX4) (ref := "FollowingRefs$Schema") rfl (by decide) rfl (by decide) inlX4 (wsl_3 _ (List.mem_of_getElem? (i := 17) rfl)) rfl dX4_width_14 rfl ?_
      refine r_alen (t := 50) (by decide) (by decide) dX4_width_17 ?_
      refine r_icmp_ge dX4_width_18 (tgt := 30) (by decide) (fun hc => ?_) (fun hc => ?_)
      · have hr := ifn hr hc
        refine r_iconst dX4_width_30 (by decide) ?_
        obtain rfl := Option.some.inj hr
        exact r_ret dX4_width_31 rfl (Or.inl ⟨rfl, rfl⟩) (k0 _ hk) ⟨rfl, rfl⟩
      · have hr := ifp hr hc
        refine r_aload_n dX4_width_21 rfl 0 rfl (nl rfl) ?_
        refine r_get 4 5 (o := a0) (w := (50, h a0 5)) (T := TX4) (ref := "FollowingRefs$Schema") rfl (by decide) rfl (by decide) inlX4 (wsl_3 _ (List.mem_of_getElem? (i := 17) rfl)) rfl dX4_width_22 rfl ?_
        refine r_iload_n dX4_width_25 rfl 1 rfl (Or.inl rfl) ?_
        obtain ⟨v26, hg26, hr⟩ := bnd hr
        refine r_iald dX4_width_26 hg26 ?_
        refine r_goto dX4_width_27 (tgt := 31) (by decide) ?_
        obtain rfl := Option.some.inj hr
        exact r_ret dX4_width_31 rfl (Or.inl ⟨rfl, rfl⟩) (k0 _ hk) ⟨rfl, rfl⟩
end M_X4_width
theorem oX4_width {l : Launch} {D : va_G} {G : gG} {h : hH} {a0 a1 : Int} {r : Int} (hr : fX4_width h a0 a1 = some r) : Ctr l D G true yX4_width M_X4_width [(14, a0), (0, a1)] h (some (0, r), h) :=
  Ctr_of (by decide) rfl (fun z => by cases z) (nl rfl) (fun {p e R s m args below meth c A H0} => by
    exact oX4_width_b0 (K := fun z9 => z9 = r) (fun r9 z => by rw [z]) hr rfl)
/-! X4_has -/
theorem dX4_has_0 : decode cX4_has 0 = .ok (.iload_n 2, 1) := by decide +kernel
theorem dX4_has_1 : decode cX4_has 1 = .ok (.ifCond .lt 16, 3) := by decide +kernel
theorem dX4_has_4 : decode cX4_has 4 = .ok (.iload_n 2, 1) := by decide +kernel
theorem dX4_has_5 : decode cX4_has 5 = .ok (.aload_n 0, 1) := by decide +kernel
theorem dX4_has_6 : decode cX4_has 6 = .ok (.iload_n 1, 1) := by decide +kernel
theorem dX4_has_7 : decode cX4_has 7 = .ok (.invokevirtual 68, 3) := by decide +kernel
theorem dX4_has_10 : decode cX4_has 10 = .ok (.if_icmp .ge 7, 3) := by decide +kernel
theorem dX4_has_13 : decode cX4_has 13 = .ok (.iconst 1, 1) := by decide +kernel
theorem dX4_has_14 : decode cX4_has 14 = .ok (.goto 4, 3) := by decide +kernel
theorem dX4_has_17 : decode cX4_has 17 = .ok (.iconst 0, 1) := by decide +kernel
theorem dX4_has_18 : decode cX4_has 18 = .ok (.ireturn, 1) := by decide +kernel
abbrev M_X4_has : mM := (cX4_has, 3, RX4, some .boolean, false, 1, 21, 0, 0)
theorem gX4_has : cI yX4_has M_X4_has 2 := ⟨(wsl_20 _ (List.mem_of_getElem? (i := 23) rfl)), (wsl_21 _ (List.mem_of_getElem? (i := 0) rfl)), (wsl_1 _ (List.mem_of_getElem? (i := 19) rfl)), (wsl_21 _ (List.mem_of_getElem? (i := 1) rfl)), by decide +kernel⟩
noncomputable def fX4_has (h : hH) (a0 a1 a2 : Int) : Option (Int) :=
  if a2 < 0 then
    some 0
  else
    (fX4_width h a0 a1).bind fun r7 =>
    if a2 < r7 then
      some 1
    else
      some 0
section M_X4_has
variable {p : Program} {l : Launch} {e : Env} {R : Room} {s : State} {m : MethodId} {args : Array Value} {below : List Frame} {meth : Method} {c : Code} {D : va_G} {G : gG} {A : Nat → Prop} {H0 : Heap} {n0 : Int} {x : Option vV × hH} {h : hH}
set_option maxRecDepth 100000 in
set_option maxHeartbeats 4000000 in
theorem oX4_has_b0 {a0 a1 a2 : Int} {K : Int → Prop} (k0 : ∀ r, K (r) → x = (some (2, r), h)) {r : Int} (hr : fX4_has h a0 a1 a2 = some r) (hk : K r) : Wq p l e R s m args below meth c D G A H0 true n0 M_X4_has x 0 0 0 [(0, (14, a0)), (1, (0, a1)), (2, (0, a2))] [] h := by
  unfold fX4_has at hr
  refine r_iload_n dX4_has_0 rfl 2 rfl (Or.inl rfl) ?_
  refine r_if_lt dX4_has_1 (tgt := 17) (by decide) (fun hc => ?_) (fun hc => ?_)
  · have hr := ifp hr hc
    refine r_iconst dX4_has_17 (by decide) ?_
    refine r_scast 0 (v := (0, 0)) (w := (2, 0)) rfl cz (fun _ => Or.inl rfl) (st' := [(2, 0)]) rfl ?_
    obtain rfl := Option.some.inj hr
    exact r_ret dX4_has_18 rfl (Or.inr ⟨rfl, rfl⟩) (k0 _ hk) ⟨rfl, rfl⟩
  · have hr := ifn hr hc
    refine r_iload_n dX4_has_4 rfl 2 rfl (Or.inl rfl) ?_
    refine r_aload_n dX4_has_5 rfl 0 rfl (nl rfl) ?_
    refine r_iload_n dX4_has_6 rfl 1 rfl (Or.inl rfl) ?_
    obtain ⟨r7, hg7, hr⟩ := bnd hr
    refine k_V (ci := 4) (o := a0) (T := TX4) (as := [(0, a1)]) (rest := [(0, a2)]) (X := (some (0, r7), h)) (oX4_width hg7) gX4_width rfl (by decide) rfl (wsl_17 _ (List.mem_of_getElem? (i := 22) rfl)) rfl dX4_has_7 rfl ?_
    refine r_icmp_ge dX4_has_10 (tgt := 17) (by decide) (fun hc => ?_) (fun hc => ?_)
    · have hr := ifn hr hc
      refine r_iconst dX4_has_17 (by decide) ?_
      refine r_scast 0 (v := (0, 0)) (w := (2, 0)) rfl cz (fun _ => Or.inl rfl) (st' := [(2, 0)]) rfl ?_
      obtain rfl := Option.some.inj hr
      exact r_ret dX4_has_18 rfl (Or.inr ⟨rfl, rfl⟩) (k0 _ hk) ⟨rfl, rfl⟩
    · have hr := ifp hr hc
      refine r_iconst dX4_has_13 (by decide) ?_
      refine r_goto dX4_has_14 (tgt := 18) (by decide) ?_
      refine r_scast 0 (v := (0, 1)) (w := (2, 1)) rfl cz (fun _ => Or.inr rfl) (st' := [(2, 1)]) rfl ?_
      obtain rfl := Option.some.inj hr
      exact r_ret dX4_has_18 rfl (Or.inr ⟨rfl, rfl⟩) (k0 _ hk) ⟨rfl, rfl⟩
end M_X4_has
theorem oX4_has {l : Launch} {D : va_G} {G : gG} {h : hH} {a0 a1 a2 : Int} {r : Int} (hr : fX4_has h a0 a1 a2 = some r) : Ctr l D G true yX4_has M_X4_has [(14, a0), (0, a1), (0, a2)] h (some (2, r), h) :=
  Ctr_of (by decide) rfl (fun z => by cases z) (nl rfl) (fun {p e R s m args below meth c A H0} => by
    exact oX4_has_b0 (K := fun z9 => z9 = r) (fun r9 z => by rw [z]) hr rfl)
/-! X4_defaultOf -/
theorem dX4_defaultOf_0 : decode cX4_defaultOf 0 = .ok (.aload_n 0, 1) := by decide +kernel
theorem dX4_defaultOf_1 : decode cX4_defaultOf 1 = .ok (.iload_n 1, 1) := by decide +kernel
theorem dX4_defaultOf_2 : decode cX4_defaultOf 2 = .ok (.iload_n 2, 1) := by decide +kernel
theorem dX4_defaultOf_3 : decode cX4_defaultOf 3 = .ok (.invokevirtual 76, 3) := by decide +kernel
theorem dX4_defaultOf_6 : decode cX4_defaultOf 6 = .ok (.ifCond .eq 18, 3) := by decide +kernel
theorem dX4_defaultOf_9 : decode cX4_defaultOf 9 = .ok (.aload_n 0, 1) := by decide +kernel
theorem dX4_defaultOf_10 : decode cX4_defaultOf 10 = .ok (.getfield 22, 3) := by decide +kernel
theorem dX4_defaultOf_13 : decode cX4_defaultOf 13 = .ok (.iload_n 1, 1) := by decide +kernel
theorem dX4_defaultOf_14 : decode cX4_defaultOf 14 = .ok (.iconst 4, 1) := by decide +kernel
theorem dX4_defaultOf_15 : decode cX4_defaultOf 15 = .ok (.imul, 1) := by decide +kernel
theorem dX4_defaultOf_16 : decode cX4_defaultOf 16 = .ok (.iload_n 2, 1) := by decide +kernel
theorem dX4_defaultOf_17 : decode cX4_defaultOf 17 = .ok (.iadd, 1) := by decide +kernel
theorem dX4_defaultOf_18 : decode cX4_defaultOf 18 = .ok (.invokestatic 80, 3) := by decide +kernel
theorem dX4_defaultOf_21 : decode cX4_defaultOf 21 = .ok (.goto 4, 3) := by decide +kernel
theorem dX4_defaultOf_24 : decode cX4_defaultOf 24 = .ok (.iconst (-1), 1) := by decide +kernel
theorem dX4_defaultOf_25 : decode cX4_defaultOf 25 = .ok (.ireturn, 1) := by decide +kernel
abbrev M_X4_defaultOf : mM := (cX4_defaultOf, 3, RX4, some .int, false, 2, 43, 0, 0)
theorem gX4_defaultOf : cI yX4_defaultOf M_X4_defaultOf 2 := ⟨(wsl_20 _ (List.mem_of_getElem? (i := 19) rfl)), (wsl_20 _ (List.mem_of_getElem? (i := 20) rfl)), (wsl_1 _ (List.mem_of_getElem? (i := 19) rfl)), (wsl_20 _ (List.mem_of_getElem? (i := 21) rfl)), by decide +kernel⟩
noncomputable def fX4_defaultOf (h : hH) (a0 a1 a2 : Int) : Option (Int) :=
  (fX4_has h a0 a1 a2).bind fun r3 =>
  if r3 = 0 then
    some (-1)
  else
    (fX11_at h (h a0 7) (w32 ((w32 (a1 * 4)) + a2))).bind fun r18 =>
    some r18
section M_X4_defaultOf
variable {p : Program} {l : Launch} {e : Env} {R : Room} {s : State} {m : MethodId} {args : Array Value} {below : List Frame} {meth : Method} {c : Code} {D : va_G} {G : gG} {A : Nat → Prop} {H0 : Heap} {n0 : Int} {x : Option vV × hH} {h : hH}
set_option maxRecDepth 100000 in
set_option maxHeartbeats 4000000 in
theorem oX4_defaultOf_b0 {a0 a1 a2 : Int} {K : Int → Prop} (k0 : ∀ r, K (r) → x = (some (0, r), h)) {r : Int} (hr : fX4_defaultOf h a0 a1 a2 = some r) (hk : K r) : Wq p l e R s m args below meth c D G A H0 true n0 M_X4_defaultOf x 0 0 0 [(0, (14, a0)), (1, (0, a1)), (2, (0, a2))] [] h := by
  unfold fX4_defaultOf at hr
  refine r_aload_n dX4_defaultOf_0 rfl 0 rfl (nl rfl) ?_
  refine r_iload_n dX4_defaultOf_1 rfl 1 rfl (Or.inl rfl) ?_
  refine r_iload_n dX4_defaultOf_2 rfl 2 rfl (Or.inl rfl) ?_
  obtain ⟨r3, hg3, hr⟩ := bnd hr
  refine k_V (ci := 4) (o := a0) (T := TX4) (as := [(0, a1), (0, a2)]) (rest := []) (X := (some (2, r3), h)) (oX4_has hg3) gX4_has rfl (by decide) rfl (wsl_20 _ (List.mem_of_getElem? (i := 22) rfl)) rfl dX4_defaultOf_3 rfl ?_
  refine r_scast 0 (v := (2, r3)) (w := (0, r3)) rfl zc hTz (st' := [(0, r3)]) rfl ?_
  refine r_if_eq dX4_defaultOf_6 (tgt := 24) (by decide) (fun hc => ?_) (fun hc => ?_)
  · have hr := ifp hr hc
    refine r_iconst dX4_defaultOf_24 (by decide) ?_
    obtain rfl := Option.some.inj hr
    exact r_ret dX4_defaultOf_25 rfl (Or.inl ⟨rfl, rfl⟩) (k0 _ hk) ⟨rfl, rfl⟩
  · have hr := ifn hr hc
    refine r_aload_n dX4_defaultOf_9 rfl 0 rfl (nl rfl) ?_
    refine r_get 4 7 (o := a0) (w := (50, h a0 7)) (T := TX4) (ref := "FollowingRefs$Schema") rfl (by decide) rfl (by decide) inlX4 (wsl_3 _ (List.mem_of_getElem? (i := 19) rfl)) rfl dX4_defaultOf_10 rfl ?_
    refine r_iload_n dX4_defaultOf_13 rfl 1 rfl (Or.inl rfl) ?_
    refine r_iconst dX4_defaultOf_14 (by decide) ?_
    refine r_imul dX4_defaultOf_15 ?_
    refine r_iload_n dX4_defaultOf_16 rfl 2 rfl (Or.inl rfl) ?_
    refine r_iadd dX4_defaultOf_17 ?_
    obtain ⟨r18, hg18, hr⟩ := bnd hr
    refine k_SN (host := "FollowingRefs") (as := [(50, h a0 7), (0, w32 ((w32 (a1 * 4)) + a2))]) (rest := []) (X := (some (0, r18), h)) (oX11_at hg18) gX11_at rfl (List.mem_of_getElem? (i := 24) rfl) rfl dX4_defaultOf_18 rfl ?_
    refine r_goto dX4_defaultOf_21 (tgt := 25) (by decide) ?_
    obtain rfl := Option.some.inj hr
    exact r_ret dX4_defaultOf_25 rfl (Or.inl ⟨rfl, rfl⟩) (k0 _ hk) ⟨rfl, rfl⟩
end M_X4_defaultOf
theorem oX4_defaultOf {l : Launch} {D : va_G} {G : gG} {h : hH} {a0 a1 a2 : Int} {r : Int} (hr : fX4_defaultOf h a0 a1 a2 = some r) : Ctr l D G true yX4_defaultOf M_X4_defaultOf [(14, a0), (0, a1), (0, a2)] h (some (0, r), h) :=
  Ctr_of (by decide) rfl (fun z => by cases z) (nl rfl) (fun {p e R s m args below meth c A H0} => by
    exact oX4_defaultOf_b0 (K := fun z9 => z9 = r) (fun r9 z => by rw [z]) hr rfl)
/-! X1_adapt -/
theorem dX1_adapt_0 : decode cX1_adapt 0 = .ok (.aload_n 0, 1) := by decide +kernel
theorem dX1_adapt_1 : decode cX1_adapt 1 = .ok (.getfield 35, 3) := by decide +kernel
theorem dX1_adapt_4 : decode cX1_adapt 4 = .ok (.iload_n 1, 1) := by decide +kernel
theorem dX1_adapt_5 : decode cX1_adapt 5 = .ok (.bipush 6, 2) := by decide +kernel
theorem dX1_adapt_7 : decode cX1_adapt 7 = .ok (.imul, 1) := by decide +kernel
theorem dX1_adapt_8 : decode cX1_adapt 8 = .ok (.iload_n 2, 1) := by decide +kernel
theorem dX1_adapt_9 : decode cX1_adapt 9 = .ok (.iadd, 1) := by decide +kernel
theorem dX1_adapt_10 : decode cX1_adapt 10 = .ok (.invokestatic 165, 3) := by decide +kernel
theorem dX1_adapt_13 : decode cX1_adapt 13 = .ok (.istore_n 3, 1) := by decide +kernel
theorem dX1_adapt_14 : decode cX1_adapt 14 = .ok (.iload_n 3, 1) := by decide +kernel
theorem dX1_adapt_15 : decode cX1_adapt 15 = .ok (.iconst (-1), 1) := by decide +kernel
theorem dX1_adapt_16 : decode cX1_adapt 16 = .ok (.if_icmp .ne 5, 3) := by decide +kernel
theorem dX1_adapt_19 : decode cX1_adapt 19 = .ok (.iconst 1, 1) := by decide +kernel
theorem dX1_adapt_20 : decode cX1_adapt 20 = .ok (.ireturn, 1) := by decide +kernel
theorem dX1_adapt_21 : decode cX1_adapt 21 = .ok (.aload_n 0, 1) := by decide +kernel
theorem dX1_adapt_22 : decode cX1_adapt 22 = .ok (.getfield 44, 3) := by decide +kernel
theorem dX1_adapt_25 : decode cX1_adapt 25 = .ok (.iload_n 2, 1) := by decide +kernel
theorem dX1_adapt_26 : decode cX1_adapt 26 = .ok (.bipush 7, 2) := by decide +kernel
theorem dX1_adapt_28 : decode cX1_adapt 28 = .ok (.invokevirtual 173, 3) := by decide +kernel
theorem dX1_adapt_31 : decode cX1_adapt 31 = .ok (.istore 4, 2) := by decide +kernel
theorem dX1_adapt_33 : decode cX1_adapt 33 = .ok (.aload_n 0, 1) := by decide +kernel
theorem dX1_adapt_34 : decode cX1_adapt 34 = .ok (.getfield 44, 3) := by decide +kernel
theorem dX1_adapt_37 : decode cX1_adapt 37 = .ok (.iload_n 2, 1) := by decide +kernel
theorem dX1_adapt_38 : decode cX1_adapt 38 = .ok (.bipush 8, 2) := by decide +kernel
theorem dX1_adapt_40 : decode cX1_adapt 40 = .ok (.invokevirtual 173, 3) := by decide +kernel
theorem dX1_adapt_43 : decode cX1_adapt 43 = .ok (.istore 5, 2) := by decide +kernel
theorem dX1_adapt_45 : decode cX1_adapt 45 = .ok (.aload_n 0, 1) := by decide +kernel
theorem dX1_adapt_46 : decode cX1_adapt 46 = .ok (.getfield 44, 3) := by decide +kernel
theorem dX1_adapt_49 : decode cX1_adapt 49 = .ok (.iload_n 2, 1) := by decide +kernel
theorem dX1_adapt_50 : decode cX1_adapt 50 = .ok (.iconst 2, 1) := by decide +kernel
theorem dX1_adapt_51 : decode cX1_adapt 51 = .ok (.invokevirtual 173, 3) := by decide +kernel
theorem dX1_adapt_54 : decode cX1_adapt 54 = .ok (.istore 6, 2) := by decide +kernel
theorem dX1_adapt_56 : decode cX1_adapt 56 = .ok (.aload_n 0, 1) := by decide +kernel
theorem dX1_adapt_57 : decode cX1_adapt 57 = .ok (.getfield 44, 3) := by decide +kernel
theorem dX1_adapt_60 : decode cX1_adapt 60 = .ok (.iload 6, 2) := by decide +kernel
theorem dX1_adapt_62 : decode cX1_adapt 62 = .ok (.iconst 1, 1) := by decide +kernel
theorem dX1_adapt_63 : decode cX1_adapt 63 = .ok (.invokevirtual 183, 3) := by decide +kernel
theorem dX1_adapt_66 : decode cX1_adapt 66 = .ok (.istore 7, 2) := by decide +kernel
theorem dX1_adapt_68 : decode cX1_adapt 68 = .ok (.aload_n 0, 1) := by decide +kernel
theorem dX1_adapt_69 : decode cX1_adapt 69 = .ok (.getfield 44, 3) := by decide +kernel
theorem dX1_adapt_72 : decode cX1_adapt 72 = .ok (.iload 6, 2) := by decide +kernel
theorem dX1_adapt_74 : decode cX1_adapt 74 = .ok (.iconst 2, 1) := by decide +kernel
theorem dX1_adapt_75 : decode cX1_adapt 75 = .ok (.invokevirtual 183, 3) := by decide +kernel
theorem dX1_adapt_78 : decode cX1_adapt 78 = .ok (.istore 8, 2) := by decide +kernel
theorem dX1_adapt_80 : decode cX1_adapt 80 = .ok (.aload_n 0, 1) := by decide +kernel
theorem dX1_adapt_81 : decode cX1_adapt 81 = .ok (.getfield 44, 3) := by decide +kernel
theorem dX1_adapt_84 : decode cX1_adapt 84 = .ok (.iload_n 2, 1) := by decide +kernel
theorem dX1_adapt_85 : decode cX1_adapt 85 = .ok (.iconst 3, 1) := by decide +kernel
theorem dX1_adapt_86 : decode cX1_adapt 86 = .ok (.invokevirtual 173, 3) := by decide +kernel
theorem dX1_adapt_89 : decode cX1_adapt 89 = .ok (.istore 9, 2) := by decide +kernel
theorem dX1_adapt_91 : decode cX1_adapt 91 = .ok (.aload_n 0, 1) := by decide +kernel
theorem dX1_adapt_92 : decode cX1_adapt 92 = .ok (.getfield 32, 3) := by decide +kernel
theorem dX1_adapt_95 : decode cX1_adapt 95 = .ok (.iload_n 3, 1) := by decide +kernel
theorem dX1_adapt_96 : decode cX1_adapt 96 = .ok (.invokestatic 165, 3) := by decide +kernel
theorem dX1_adapt_99 : decode cX1_adapt 99 = .ok (.iconst (-1), 1) := by decide +kernel
theorem dX1_adapt_100 : decode cX1_adapt 100 = .ok (.if_icmp .ne 100, 3) := by decide +kernel
theorem dX1_adapt_103 : decode cX1_adapt 103 = .ok (.aload_n 0, 1) := by decide +kernel
theorem dX1_adapt_104 : decode cX1_adapt 104 = .ok (.iload_n 3, 1) := by decide +kernel
theorem dX1_adapt_105 : decode cX1_adapt 105 = .ok (.iload 7, 2) := by decide +kernel
theorem dX1_adapt_107 : decode cX1_adapt 107 = .ok (.invokevirtual 186, 3) := by decide +kernel
theorem dX1_adapt_110 : decode cX1_adapt 110 = .ok (.istore 10, 2) := by decide +kernel
theorem dX1_adapt_112 : decode cX1_adapt 112 = .ok (.aload_n 0, 1) := by decide +kernel
theorem dX1_adapt_113 : decode cX1_adapt 113 = .ok (.iload_n 3, 1) := by decide +kernel
theorem dX1_adapt_114 : decode cX1_adapt 114 = .ok (.iload 8, 2) := by decide +kernel
theorem dX1_adapt_116 : decode cX1_adapt 116 = .ok (.invokevirtual 186, 3) := by decide +kernel
theorem dX1_adapt_119 : decode cX1_adapt 119 = .ok (.istore 11, 2) := by decide +kernel
theorem dX1_adapt_121 : decode cX1_adapt 121 = .ok (.iload 10, 2) := by decide +kernel
theorem dX1_adapt_123 : decode cX1_adapt 123 = .ok (.ifCond .ne 10, 3) := by decide +kernel
theorem dX1_adapt_126 : decode cX1_adapt 126 = .ok (.iload 11, 2) := by decide +kernel
theorem dX1_adapt_128 : decode cX1_adapt 128 = .ok (.ifCond .ne 5, 3) := by decide +kernel
theorem dX1_adapt_131 : decode cX1_adapt 131 = .ok (.iconst 1, 1) := by decide +kernel
theorem dX1_adapt_132 : decode cX1_adapt 132 = .ok (.ireturn, 1) := by decide +kernel
theorem dX1_adapt_133 : decode cX1_adapt 133 = .ok (.aload_n 0, 1) := by decide +kernel
theorem dX1_adapt_134 : decode cX1_adapt 134 = .ok (.getfield 44, 3) := by decide +kernel
theorem dX1_adapt_137 : decode cX1_adapt 137 = .ok (.iload_n 2, 1) := by decide +kernel
theorem dX1_adapt_138 : decode cX1_adapt 138 = .ok (.iconst 4, 1) := by decide +kernel
theorem dX1_adapt_139 : decode cX1_adapt 139 = .ok (.invokevirtual 173, 3) := by decide +kernel
theorem dX1_adapt_142 : decode cX1_adapt 142 = .ok (.istore 9, 2) := by decide +kernel
theorem dX1_adapt_144 : decode cX1_adapt 144 = .ok (.iload 9, 2) := by decide +kernel
theorem dX1_adapt_146 : decode cX1_adapt 146 = .ok (.iconst 1, 1) := by decide +kernel
theorem dX1_adapt_147 : decode cX1_adapt 147 = .ok (.if_icmp .ne 53, 3) := by decide +kernel
theorem dX1_adapt_150 : decode cX1_adapt 150 = .ok (.iload 10, 2) := by decide +kernel
theorem dX1_adapt_152 : decode cX1_adapt 152 = .ok (.ifCond .eq 20, 3) := by decide +kernel
theorem dX1_adapt_155 : decode cX1_adapt 155 = .ok (.aload_n 0, 1) := by decide +kernel
theorem dX1_adapt_156 : decode cX1_adapt 156 = .ok (.iload_n 1, 1) := by decide +kernel
theorem dX1_adapt_157 : decode cX1_adapt 157 = .ok (.iload 4, 2) := by decide +kernel
theorem dX1_adapt_159 : decode cX1_adapt 159 = .ok (.aload_n 0, 1) := by decide +kernel
theorem dX1_adapt_160 : decode cX1_adapt 160 = .ok (.iload_n 3, 1) := by decide +kernel
theorem dX1_adapt_161 : decode cX1_adapt 161 = .ok (.iload 7, 2) := by decide +kernel
theorem dX1_adapt_163 : decode cX1_adapt 163 = .ok (.invokevirtual 189, 3) := by decide +kernel
theorem dX1_adapt_166 : decode cX1_adapt 166 = .ok (.invokevirtual 158, 3) := by decide +kernel
theorem dX1_adapt_169 : decode cX1_adapt 169 = .ok (.ifCond .eq 29, 3) := by decide +kernel
theorem dX1_adapt_172 : decode cX1_adapt 172 = .ok (.iload 11, 2) := by decide +kernel
theorem dX1_adapt_174 : decode cX1_adapt 174 = .ok (.ifCond .eq 20, 3) := by decide +kernel
theorem dX1_adapt_177 : decode cX1_adapt 177 = .ok (.aload_n 0, 1) := by decide +kernel
theorem dX1_adapt_178 : decode cX1_adapt 178 = .ok (.iload_n 1, 1) := by decide +kernel
theorem dX1_adapt_179 : decode cX1_adapt 179 = .ok (.iload 5, 2) := by decide +kernel
theorem dX1_adapt_181 : decode cX1_adapt 181 = .ok (.aload_n 0, 1) := by decide +kernel
theorem dX1_adapt_182 : decode cX1_adapt 182 = .ok (.iload_n 3, 1) := by decide +kernel
theorem dX1_adapt_183 : decode cX1_adapt 183 = .ok (.iload 8, 2) := by decide +kernel
theorem dX1_adapt_185 : decode cX1_adapt 185 = .ok (.invokevirtual 189, 3) := by decide +kernel
theorem dX1_adapt_188 : decode cX1_adapt 188 = .ok (.invokevirtual 158, 3) := by decide +kernel
theorem dX1_adapt_191 : decode cX1_adapt 191 = .ok (.ifCond .eq 7, 3) := by decide +kernel
theorem dX1_adapt_194 : decode cX1_adapt 194 = .ok (.iconst 1, 1) := by decide +kernel
theorem dX1_adapt_195 : decode cX1_adapt 195 = .ok (.goto 4, 3) := by decide +kernel
theorem dX1_adapt_198 : decode cX1_adapt 198 = .ok (.iconst 0, 1) := by decide +kernel
theorem dX1_adapt_199 : decode cX1_adapt 199 = .ok (.ireturn, 1) := by decide +kernel
theorem dX1_adapt_200 : decode cX1_adapt 200 = .ok (.iload 9, 2) := by decide +kernel
theorem dX1_adapt_202 : decode cX1_adapt 202 = .ok (.iconst 2, 1) := by decide +kernel
theorem dX1_adapt_203 : decode cX1_adapt 203 = .ok (.if_icmp .ne 31, 3) := by decide +kernel
theorem dX1_adapt_206 : decode cX1_adapt 206 = .ok (.aload_n 0, 1) := by decide +kernel
theorem dX1_adapt_207 : decode cX1_adapt 207 = .ok (.iload_n 1, 1) := by decide +kernel
theorem dX1_adapt_208 : decode cX1_adapt 208 = .ok (.iload 4, 2) := by decide +kernel
theorem dX1_adapt_210 : decode cX1_adapt 210 = .ok (.iconst (-1), 1) := by decide +kernel
theorem dX1_adapt_211 : decode cX1_adapt 211 = .ok (.invokevirtual 158, 3) := by decide +kernel
theorem dX1_adapt_214 : decode cX1_adapt 214 = .ok (.ifCond .eq 18, 3) := by decide +kernel
theorem dX1_adapt_217 : decode cX1_adapt 217 = .ok (.aload_n 0, 1) := by decide +kernel
theorem dX1_adapt_218 : decode cX1_adapt 218 = .ok (.iload_n 1, 1) := by decide +kernel
theorem dX1_adapt_219 : decode cX1_adapt 219 = .ok (.iload 5, 2) := by decide +kernel
theorem dX1_adapt_221 : decode cX1_adapt 221 = .ok (.iconst (-1), 1) := by decide +kernel
theorem dX1_adapt_222 : decode cX1_adapt 222 = .ok (.invokevirtual 158, 3) := by decide +kernel
theorem dX1_adapt_225 : decode cX1_adapt 225 = .ok (.ifCond .eq 7, 3) := by decide +kernel
theorem dX1_adapt_228 : decode cX1_adapt 228 = .ok (.iconst 1, 1) := by decide +kernel
theorem dX1_adapt_229 : decode cX1_adapt 229 = .ok (.goto 4, 3) := by decide +kernel
theorem dX1_adapt_232 : decode cX1_adapt 232 = .ok (.iconst 0, 1) := by decide +kernel
theorem dX1_adapt_233 : decode cX1_adapt 233 = .ok (.ireturn, 1) := by decide +kernel
theorem dX1_adapt_234 : decode cX1_adapt 234 = .ok (.aload_n 0, 1) := by decide +kernel
theorem dX1_adapt_235 : decode cX1_adapt 235 = .ok (.getfield 44, 3) := by decide +kernel
theorem dX1_adapt_238 : decode cX1_adapt 238 = .ok (.iload_n 2, 1) := by decide +kernel
theorem dX1_adapt_239 : decode cX1_adapt 239 = .ok (.iconst 0, 1) := by decide +kernel
theorem dX1_adapt_240 : decode cX1_adapt 240 = .ok (.invokevirtual 173, 3) := by decide +kernel
theorem dX1_adapt_243 : decode cX1_adapt 243 = .ok (.istore 10, 2) := by decide +kernel
theorem dX1_adapt_245 : decode cX1_adapt 245 = .ok (.iload 9, 2) := by decide +kernel
theorem dX1_adapt_247 : decode cX1_adapt 247 = .ok (.iconst 3, 1) := by decide +kernel
theorem dX1_adapt_248 : decode cX1_adapt 248 = .ok (.if_icmp .ne 45, 3) := by decide +kernel
theorem dX1_adapt_251 : decode cX1_adapt 251 = .ok (.aload_n 0, 1) := by decide +kernel
theorem dX1_adapt_252 : decode cX1_adapt 252 = .ok (.iload_n 1, 1) := by decide +kernel
theorem dX1_adapt_253 : decode cX1_adapt 253 = .ok (.iload 4, 2) := by decide +kernel
theorem dX1_adapt_255 : decode cX1_adapt 255 = .ok (.aload_n 0, 1) := by decide +kernel
theorem dX1_adapt_256 : decode cX1_adapt 256 = .ok (.getfield 44, 3) := by decide +kernel
theorem dX1_adapt_259 : decode cX1_adapt 259 = .ok (.iload 10, 2) := by decide +kernel
theorem dX1_adapt_261 : decode cX1_adapt 261 = .ok (.iload 4, 2) := by decide +kernel
theorem dX1_adapt_263 : decode cX1_adapt 263 = .ok (.invokevirtual 192, 3) := by decide +kernel
theorem dX1_adapt_266 : decode cX1_adapt 266 = .ok (.invokevirtual 158, 3) := by decide +kernel
theorem dX1_adapt_269 : decode cX1_adapt 269 = .ok (.ifCond .eq 28, 3) := by decide +kernel
theorem dX1_adapt_272 : decode cX1_adapt 272 = .ok (.aload_n 0, 1) := by decide +kernel
theorem dX1_adapt_273 : decode cX1_adapt 273 = .ok (.iload_n 1, 1) := by decide +kernel
theorem dX1_adapt_274 : decode cX1_adapt 274 = .ok (.iload 5, 2) := by decide +kernel
theorem dX1_adapt_276 : decode cX1_adapt 276 = .ok (.aload_n 0, 1) := by decide +kernel
theorem dX1_adapt_277 : decode cX1_adapt 277 = .ok (.getfield 44, 3) := by decide +kernel
theorem dX1_adapt_280 : decode cX1_adapt 280 = .ok (.iload 10, 2) := by decide +kernel
theorem dX1_adapt_282 : decode cX1_adapt 282 = .ok (.iload 5, 2) := by decide +kernel
theorem dX1_adapt_284 : decode cX1_adapt 284 = .ok (.invokevirtual 192, 3) := by decide +kernel
theorem dX1_adapt_287 : decode cX1_adapt 287 = .ok (.invokevirtual 158, 3) := by decide +kernel
theorem dX1_adapt_290 : decode cX1_adapt 290 = .ok (.ifCond .eq 7, 3) := by decide +kernel
theorem dX1_adapt_293 : decode cX1_adapt 293 = .ok (.iconst 1, 1) := by decide +kernel
theorem dX1_adapt_294 : decode cX1_adapt 294 = .ok (.goto 4, 3) := by decide +kernel
theorem dX1_adapt_297 : decode cX1_adapt 297 = .ok (.iconst 0, 1) := by decide +kernel
theorem dX1_adapt_298 : decode cX1_adapt 298 = .ok (.ireturn, 1) := by decide +kernel
abbrev M_X1_adapt : mM := (cX1_adapt, 12, RX1, some .boolean, false, 3, 65, 0, 0)
theorem gX1_adapt : cI yX1_adapt M_X1_adapt 2 := ⟨(wsl_36 _ (List.mem_of_getElem? (i := 6) rfl)), (wsl_36 _ (List.mem_of_getElem? (i := 7) rfl)), (wsl_2 _ (List.mem_of_getElem? (i := 19) rfl)), (wsl_36 _ (List.mem_of_getElem? (i := 8) rfl)), by decide +kernel⟩
noncomputable def fX1_adapt_b194 (h : hH) : Option (Int × hH) :=
  some (1, h)
noncomputable def fX1_adapt_b172 (h : hH) (a0 a1 l3 l5 l8 l11 : Int) : Option (Int × hH) :=
  if l11 = 0 then
    fX1_adapt_b194 h
  else
    (fX1_wantedOf h a0 l3 l8).bind fun r185 =>
    (fX1_wish h a0 a1 l5 r185).bind fun q188 =>
    if q188.1 = 0 then
      some (0, q188.2)
    else
      fX1_adapt_b194 q188.2
noncomputable def fX1_adapt_b293 (h : hH) : Option (Int × hH) :=
  some (1, h)
noncomputable def fX1_adapt_b200 (h : hH) (a0 a1 a2 l4 l5 l9 : Int) : Option (Int × hH) :=
  if l9 = 2 then
    (fX1_wish h a0 a1 l4 (-1)).bind fun q211 =>
    if q211.1 = 0 then
      some (0, q211.2)
    else
      (fX1_wish q211.2 a0 a1 l5 (-1)).bind fun q222 =>
      if q222.1 = 0 then
        some (0, q222.2)
      else
        some (1, q222.2)
  else
    (fX4_refPart h (h a0 0) a2 0).bind fun r240 =>
    if l9 = 3 then
      (fX4_defaultOf h (h a0 0) r240 l4).bind fun r263 =>
      (fX1_wish h a0 a1 l4 r263).bind fun q266 =>
      if q266.1 = 0 then
        some (0, q266.2)
      else
        (fX4_defaultOf q266.2 (q266.2 a0 0) r240 l5).bind fun r284 =>
        (fX1_wish q266.2 a0 a1 l5 r284).bind fun q287 =>
        if q287.1 = 0 then
          some (0, q287.2)
        else
          fX1_adapt_b293 q287.2
    else
      fX1_adapt_b293 h
noncomputable def fX1_adapt_b133 (h : hH) (a0 a1 a2 l3 l4 l5 l7 l8 l10 l11 : Int) : Option (Int × hH) :=
  (fX4_refPart h (h a0 0) a2 4).bind fun r139 =>
  if r139 = 1 then
    if l10 = 0 then
      fX1_adapt_b172 h a0 a1 l3 l5 l8 l11
    else
      (fX1_wantedOf h a0 l3 l7).bind fun r163 =>
      (fX1_wish h a0 a1 l4 r163).bind fun q166 =>
      if q166.1 = 0 then
        some (0, q166.2)
      else
        fX1_adapt_b172 q166.2 a0 a1 l3 l5 l8 l11
  else
    fX1_adapt_b200 h a0 a1 a2 l4 l5 r139
noncomputable def fX1_adapt (h : hH) (a0 a1 a2 : Int) : Option (Int × hH) :=
  (fX11_at h (h a0 14) (w32 ((w32 (a1 * 6)) + a2))).bind fun r10 =>
  if r10 = -1 then
    some (1, h)
  else
    (fX4_refPart h (h a0 0) a2 7).bind fun r28 =>
    (fX4_refPart h (h a0 0) a2 8).bind fun r40 =>
    (fX4_refPart h (h a0 0) a2 2).bind fun r51 =>
    (fX4_keyPart h (h a0 0) r51 1).bind fun r63 =>
    (fX4_keyPart h (h a0 0) r51 2).bind fun r75 =>
    (fX4_refPart h (h a0 0) a2 3).bind fun r86 =>
    (fX11_at h (h a0 13) r10).bind fun r96 =>
    if r96 = -1 then
      (fX1_becomesAnother h a0 r10 r63).bind fun r107 =>
      (fX1_becomesAnother h a0 r10 r75).bind fun r116 =>
      if r107 = 0 then
        if r116 = 0 then
          some (1, h)
        else
          fX1_adapt_b133 h a0 a1 a2 r10 r28 r40 r63 r75 r107 r116
      else
        fX1_adapt_b133 h a0 a1 a2 r10 r28 r40 r63 r75 r107 r116
    else
      fX1_adapt_b200 h a0 a1 a2 r28 r40 r86
section M_X1_adapt
variable {p : Program} {l : Launch} {e : Env} {R : Room} {s : State} {m : MethodId} {args : Array Value} {below : List Frame} {meth : Method} {c : Code} {D : va_G} {G : gG} {A : Nat → Prop} {H0 : Heap} {n0 : Int} {x : Option vV × hH} {h : hH}
set_option maxRecDepth 100000 in
set_option maxHeartbeats 4000000 in
theorem oX1_adapt_b194 {K : Int × hH → Prop} (k0 : ∀ r, K (r) → x = (some (2, r.1), r.2)) {r : Int × hH} (hr : fX1_adapt_b194 h  = some r) (hk : K r) : Wq p l e R s m args below meth c D G A H0 true n0 M_X1_adapt x 0 0 194 [] [] h := by
  unfold fX1_adapt_b194 at hr
  refine r_iconst dX1_adapt_194 (by decide) ?_
  refine r_goto dX1_adapt_195 (tgt := 199) (by decide) ?_
  refine r_scast 0 (v := (0, 1)) (w := (2, 1)) rfl cz (fun _ => Or.inr rfl) (st' := [(2, 1)]) rfl ?_
  obtain rfl := Option.some.inj hr
  exact r_ret dX1_adapt_199 rfl (Or.inr ⟨rfl, rfl⟩) (k0 _ hk) ⟨rfl, rfl⟩
set_option maxRecDepth 100000 in
set_option maxHeartbeats 4000000 in
theorem oX1_adapt_b172 {a0 a1 l3 l5 l8 l11 : Int} {K : Int × hH → Prop} (k0 : ∀ r, K (r) → x = (some (2, r.1), r.2)) {r : Int × hH} (hr : fX1_adapt_b172 h a0 a1 l3 l5 l8 l11 = some r) (hk : K r) : Wq p l e R s m args below meth c D G A H0 true n0 M_X1_adapt x 0 0 172 [(0, (11, a0)), (1, (0, a1)), (3, (0, l3)), (5, (0, l5)), (8, (0, l8)), (11, (2, l11))] [] h := by
  unfold fX1_adapt_b172 at hr
  refine r_iload dX1_adapt_172 5 rfl (Or.inr rfl) ?_
  refine r_scast 0 (v := (2, l11)) (w := (0, l11)) rfl zc hTz (st' := [(0, l11)]) rfl ?_
  refine r_if_eq dX1_adapt_174 (tgt := 194) (by decide) (fun hc => ?_) (fun hc => ?_)
  · have hr := ifp hr hc
    refine r_sub [] (lv' := []) rfl ?_
    exact oX1_adapt_b194 (K := K) (fun r z => k0 r z) hr hk
  · have hr := ifn hr hc
    refine r_aload_n dX1_adapt_177 rfl 0 rfl (nl rfl) ?_
    refine r_iload_n dX1_adapt_178 rfl 1 rfl (Or.inl rfl) ?_
    refine r_iload dX1_adapt_179 3 rfl (Or.inl rfl) ?_
    refine r_aload_n dX1_adapt_181 rfl 0 rfl (nl rfl) ?_
    refine r_iload_n dX1_adapt_182 rfl 2 rfl (Or.inl rfl) ?_
    refine r_iload dX1_adapt_183 4 rfl (Or.inl rfl) ?_
    obtain ⟨r185, hg185, hr⟩ := bnd hr
    refine k_V (ci := 1) (o := a0) (T := TX1) (as := [(0, l3), (0, l8)]) (rest := [(0, l5), (0, a1), (11, a0)]) (X := (some (0, r185), h)) (oX1_wantedOf hg185) gX1_wantedOf rfl (by decide) rfl (wsl_36 _ (List.mem_of_getElem? (i := 14) rfl)) rfl dX1_adapt_185 rfl ?_
    obtain ⟨q188, hg188, hr⟩ := bnd hr
    refine k_V (ci := 1) (o := a0) (T := TX1) (as := [(0, a1), (0, l5), (0, r185)]) (rest := []) (X := (some (2, q188.1), q188.2)) (oX1_wish hg188) gX1_wish rfl (by decide) rfl (wsl_35 _ (List.mem_of_getElem? (i := 3) rfl)) rfl dX1_adapt_188 rfl ?_
    refine r_scast 0 (v := (2, q188.1)) (w := (0, q188.1)) rfl zc hTz (st' := [(0, q188.1)]) rfl ?_
    refine r_if_eq dX1_adapt_191 (tgt := 198) (by decide) (fun hc => ?_) (fun hc => ?_)
    · have hr := ifp hr hc
      refine r_iconst dX1_adapt_198 (by decide) ?_
      refine r_scast 0 (v := (0, 0)) (w := (2, 0)) rfl cz (fun _ => Or.inl rfl) (st' := [(2, 0)]) rfl ?_
      obtain rfl := Option.some.inj hr
      exact r_ret dX1_adapt_199 rfl (Or.inr ⟨rfl, rfl⟩) (k0 _ hk) ⟨rfl, rfl⟩
    · have hr := ifn hr hc
      refine r_sub [] (lv' := []) rfl ?_
      exact oX1_adapt_b194 (K := K) (fun r z => k0 r z) hr hk
set_option maxRecDepth 100000 in
set_option maxHeartbeats 4000000 in
theorem oX1_adapt_b293 {K : Int × hH → Prop} (k0 : ∀ r, K (r) → x = (some (2, r.1), r.2)) {r : Int × hH} (hr : fX1_adapt_b293 h  = some r) (hk : K r) : Wq p l e R s m args below meth c D G A H0 true n0 M_X1_adapt x 0 0 293 [] [] h := by
  unfold fX1_adapt_b293 at hr
  refine r_iconst dX1_adapt_293 (by decide) ?_
  refine r_goto dX1_adapt_294 (tgt := 298) (by decide) ?_
  refine r_scast 0 (v := (0, 1)) (w := (2, 1)) rfl cz (fun _ => Or.inr rfl) (st' := [(2, 1)]) rfl ?_
  obtain rfl := Option.some.inj hr
  exact r_ret dX1_adapt_298 rfl (Or.inr ⟨rfl, rfl⟩) (k0 _ hk) ⟨rfl, rfl⟩
set_option maxRecDepth 100000 in
set_option maxHeartbeats 4000000 in
theorem oX1_adapt_b200 {a0 a1 a2 l4 l5 l9 : Int} {K : Int × hH → Prop} (k0 : ∀ r, K (r) → x = (some (2, r.1), r.2)) {r : Int × hH} (hr : fX1_adapt_b200 h a0 a1 a2 l4 l5 l9 = some r) (hk : K r) : Wq p l e R s m args below meth c D G A H0 true n0 M_X1_adapt x 0 0 200 [(0, (11, a0)), (1, (0, a1)), (2, (0, a2)), (4, (0, l4)), (5, (0, l5)), (9, (0, l9))] [] h := by
  unfold fX1_adapt_b200 at hr
  refine r_iload dX1_adapt_200 5 rfl (Or.inl rfl) ?_
  refine r_iconst dX1_adapt_202 (by decide) ?_
  refine r_icmp_ne dX1_adapt_203 (tgt := 234) (by decide) (fun hc => ?_) (fun hc => ?_)
  · have hr := ifn hr hc
    refine r_aload_n dX1_adapt_234 rfl 0 rfl (nl rfl) ?_
    refine r_get 1 0 (o := a0) (w := (14, h a0 0)) (T := TX1) (ref := "FollowingRefs$Judge") rfl (by decide) rfl (by decide) inlX1 (wsl_6 _ (List.mem_of_getElem? (i := 8) rfl)) rfl dX1_adapt_235 rfl ?_
    refine r_iload_n dX1_adapt_238 rfl 2 rfl (Or.inl rfl) ?_
    refine r_iconst dX1_adapt_239 (by decide) ?_
    obtain ⟨r240, hg240, hr⟩ := bnd hr
    refine k_V (ci := 4) (o := h a0 0) (T := TX4) (as := [(0, a2), (0, 0)]) (rest := []) (X := (some (0, r240), h)) (oX4_refPart hg240) gX4_refPart rfl (by decide) rfl (wsl_35 _ (List.mem_of_getElem? (i := 16) rfl)) rfl dX1_adapt_240 rfl ?_
    refine r_istore dX1_adapt_243 (Or.inl rfl) (by decide) (lv' := [(10, (0, r240)), (0, (11, a0)), (1, (0, a1)), (2, (0, a2)), (4, (0, l4)), (5, (0, l5)), (9, (0, l9))]) rfl ?_
    refine r_iload dX1_adapt_245 6 rfl (Or.inl rfl) ?_
    refine r_iconst dX1_adapt_247 (by decide) ?_
    refine r_icmp_ne dX1_adapt_248 (tgt := 293) (by decide) (fun hc => ?_) (fun hc => ?_)
    · have hr := ifn hr hc
      refine r_sub [] (lv' := []) rfl ?_
      exact oX1_adapt_b293 (K := K) (fun r z => k0 r z) hr hk
    · have hr := ifp hr hc
      refine r_aload_n dX1_adapt_251 rfl 1 rfl (nl rfl) ?_
      refine r_iload_n dX1_adapt_252 rfl 2 rfl (Or.inl rfl) ?_
      refine r_iload dX1_adapt_253 4 rfl (Or.inl rfl) ?_
      refine r_aload_n dX1_adapt_255 rfl 1 rfl (nl rfl) ?_
      refine r_get 1 0 (o := a0) (w := (14, h a0 0)) (T := TX1) (ref := "FollowingRefs$Judge") rfl (by decide) rfl (by decide) inlX1 (wsl_6 _ (List.mem_of_getElem? (i := 8) rfl)) rfl dX1_adapt_256 rfl ?_
      refine r_iload dX1_adapt_259 0 rfl (Or.inl rfl) ?_
      refine r_iload dX1_adapt_261 4 rfl (Or.inl rfl) ?_
      obtain ⟨r263, hg263, hr⟩ := bnd hr
      refine k_V (ci := 4) (o := h a0 0) (T := TX4) (as := [(0, r240), (0, l4)]) (rest := [(0, l4), (0, a1), (11, a0)]) (X := (some (0, r263), h)) (oX4_defaultOf hg263) gX4_defaultOf rfl (by decide) rfl (wsl_36 _ (List.mem_of_getElem? (i := 19) rfl)) rfl dX1_adapt_263 rfl ?_
      obtain ⟨q266, hg266, hr⟩ := bnd hr
      refine k_V (ci := 1) (o := a0) (T := TX1) (as := [(0, a1), (0, l4), (0, r263)]) (rest := []) (X := (some (2, q266.1), q266.2)) (oX1_wish hg266) gX1_wish rfl (by decide) rfl (wsl_35 _ (List.mem_of_getElem? (i := 3) rfl)) rfl dX1_adapt_266 rfl ?_
      refine r_scast 0 (v := (2, q266.1)) (w := (0, q266.1)) rfl zc hTz (st' := [(0, q266.1)]) rfl ?_
      refine r_if_eq dX1_adapt_269 (tgt := 297) (by decide) (fun hc => ?_) (fun hc => ?_)
      · have hr := ifp hr hc
        refine r_iconst dX1_adapt_297 (by decide) ?_
        refine r_scast 0 (v := (0, 0)) (w := (2, 0)) rfl cz (fun _ => Or.inl rfl) (st' := [(2, 0)]) rfl ?_
        obtain rfl := Option.some.inj hr
        exact r_ret dX1_adapt_298 rfl (Or.inr ⟨rfl, rfl⟩) (k0 _ hk) ⟨rfl, rfl⟩
      · have hr := ifn hr hc
        refine r_aload_n dX1_adapt_272 rfl 1 rfl (nl rfl) ?_
        refine r_iload_n dX1_adapt_273 rfl 2 rfl (Or.inl rfl) ?_
        refine r_iload dX1_adapt_274 5 rfl (Or.inl rfl) ?_
        refine r_aload_n dX1_adapt_276 rfl 1 rfl (nl rfl) ?_
        refine r_get 1 0 (o := a0) (w := (14, q266.2 a0 0)) (T := TX1) (ref := "FollowingRefs$Judge") rfl (by decide) rfl (by decide) inlX1 (wsl_6 _ (List.mem_of_getElem? (i := 8) rfl)) rfl dX1_adapt_277 rfl ?_
        refine r_iload dX1_adapt_280 0 rfl (Or.inl rfl) ?_
        refine r_iload dX1_adapt_282 5 rfl (Or.inl rfl) ?_
        obtain ⟨r284, hg284, hr⟩ := bnd hr
        refine k_V (ci := 4) (o := q266.2 a0 0) (T := TX4) (as := [(0, r240), (0, l5)]) (rest := [(0, l5), (0, a1), (11, a0)]) (X := (some (0, r284), q266.2)) (oX4_defaultOf hg284) gX4_defaultOf rfl (by decide) rfl (wsl_36 _ (List.mem_of_getElem? (i := 19) rfl)) rfl dX1_adapt_284 rfl ?_
        obtain ⟨q287, hg287, hr⟩ := bnd hr
        refine k_V (ci := 1) (o := a0) (T := TX1) (as := [(0, a1), (0, l5), (0, r284)]) (rest := []) (X := (some (2, q287.1), q287.2)) (oX1_wish hg287) gX1_wish rfl (by decide) rfl (wsl_35 _ (List.mem_of_getElem? (i := 3) rfl)) rfl dX1_adapt_287 rfl ?_
        refine r_scast 0 (v := (2, q287.1)) (w := (0, q287.1)) rfl zc hTz (st' := [(0, q287.1)]) rfl ?_
        refine r_if_eq dX1_adapt_290 (tgt := 297) (by decide) (fun hc => ?_) (fun hc => ?_)
        · have hr := ifp hr hc
          refine r_iconst dX1_adapt_297 (by decide) ?_
          refine r_scast 0 (v := (0, 0)) (w := (2, 0)) rfl cz (fun _ => Or.inl rfl) (st' := [(2, 0)]) rfl ?_
          obtain rfl := Option.some.inj hr
          exact r_ret dX1_adapt_298 rfl (Or.inr ⟨rfl, rfl⟩) (k0 _ hk) ⟨rfl, rfl⟩
        · have hr := ifn hr hc
          refine r_sub [] (lv' := []) rfl ?_
          exact oX1_adapt_b293 (K := K) (fun r z => k0 r z) hr hk
  · have hr := ifp hr hc
    refine r_aload_n dX1_adapt_206 rfl 0 rfl (nl rfl) ?_
    refine r_iload_n dX1_adapt_207 rfl 1 rfl (Or.inl rfl) ?_
    refine r_iload dX1_adapt_208 3 rfl (Or.inl rfl) ?_
    refine r_iconst dX1_adapt_210 (by decide) ?_
    obtain ⟨q211, hg211, hr⟩ := bnd hr
    refine k_V (ci := 1) (o := a0) (T := TX1) (as := [(0, a1), (0, l4), (0, -1)]) (rest := []) (X := (some (2, q211.1), q211.2)) (oX1_wish hg211) gX1_wish rfl (by decide) rfl (wsl_35 _ (List.mem_of_getElem? (i := 3) rfl)) rfl dX1_adapt_211 rfl ?_
    refine r_scast 0 (v := (2, q211.1)) (w := (0, q211.1)) rfl zc hTz (st' := [(0, q211.1)]) rfl ?_
    refine r_if_eq dX1_adapt_214 (tgt := 232) (by decide) (fun hc => ?_) (fun hc => ?_)
    · have hr := ifp hr hc
      refine r_iconst dX1_adapt_232 (by decide) ?_
      refine r_scast 0 (v := (0, 0)) (w := (2, 0)) rfl cz (fun _ => Or.inl rfl) (st' := [(2, 0)]) rfl ?_
      obtain rfl := Option.some.inj hr
      exact r_ret dX1_adapt_233 rfl (Or.inr ⟨rfl, rfl⟩) (k0 _ hk) ⟨rfl, rfl⟩
    · have hr := ifn hr hc
      refine r_aload_n dX1_adapt_217 rfl 0 rfl (nl rfl) ?_
      refine r_iload_n dX1_adapt_218 rfl 1 rfl (Or.inl rfl) ?_
      refine r_iload dX1_adapt_219 4 rfl (Or.inl rfl) ?_
      refine r_iconst dX1_adapt_221 (by decide) ?_
      obtain ⟨q222, hg222, hr⟩ := bnd hr
      refine k_V (ci := 1) (o := a0) (T := TX1) (as := [(0, a1), (0, l5), (0, -1)]) (rest := []) (X := (some (2, q222.1), q222.2)) (oX1_wish hg222) gX1_wish rfl (by decide) rfl (wsl_35 _ (List.mem_of_getElem? (i := 3) rfl)) rfl dX1_adapt_222 rfl ?_
      refine r_scast 0 (v := (2, q222.1)) (w := (0, q222.1)) rfl zc hTz (st' := [(0, q222.1)]) rfl ?_
      refine r_if_eq dX1_adapt_225 (tgt := 232) (by decide) (fun hc => ?_) (fun hc => ?_)
      · have hr := ifp hr hc
        refine r_iconst dX1_adapt_232 (by decide) ?_
        refine r_scast 0 (v := (0, 0)) (w := (2, 0)) rfl cz (fun _ => Or.inl rfl) (st' := [(2, 0)]) rfl ?_
        obtain rfl := Option.some.inj hr
        exact r_ret dX1_adapt_233 rfl (Or.inr ⟨rfl, rfl⟩) (k0 _ hk) ⟨rfl, rfl⟩
      · have hr := ifn hr hc
        refine r_iconst dX1_adapt_228 (by decide) ?_
        refine r_goto dX1_adapt_229 (tgt := 233) (by decide) ?_
        refine r_scast 0 (v := (0, 1)) (w := (2, 1)) rfl cz (fun _ => Or.inr rfl) (st' := [(2, 1)]) rfl ?_
        obtain rfl := Option.some.inj hr
        exact r_ret dX1_adapt_233 rfl (Or.inr ⟨rfl, rfl⟩) (k0 _ hk) ⟨rfl, rfl⟩
set_option maxRecDepth 100000 in
set_option maxHeartbeats 4000000 in
theorem oX1_adapt_b133 {a0 a1 a2 l3 l4 l5 l7 l8 l10 l11 : Int} {K : Int × hH → Prop} (k0 : ∀ r, K (r) → x = (some (2, r.1), r.2)) {r : Int × hH} (hr : fX1_adapt_b133 h a0 a1 a2 l3 l4 l5 l7 l8 l10 l11 = some r) (hk : K r) : Wq p l e R s m args below meth c D G A H0 true n0 M_X1_adapt x 0 0 133 [(0, (11, a0)), (1, (0, a1)), (2, (0, a2)), (3, (0, l3)), (4, (0, l4)), (5, (0, l5)), (7, (0, l7)), (8, (0, l8)), (10, (2, l10)), (11, (2, l11))] [] h := by
  unfold fX1_adapt_b133 at hr
  refine r_aload_n dX1_adapt_133 rfl 0 rfl (nl rfl) ?_
  refine r_get 1 0 (o := a0) (w := (14, h a0 0)) (T := TX1) (ref := "FollowingRefs$Judge") rfl (by decide) rfl (by decide) inlX1 (wsl_6 _ (List.mem_of_getElem? (i := 8) rfl)) rfl dX1_adapt_134 rfl ?_
  refine r_iload_n dX1_adapt_137 rfl 2 rfl (Or.inl rfl) ?_
  refine r_iconst dX1_adapt_138 (by decide) ?_
  obtain ⟨r139, hg139, hr⟩ := bnd hr
  refine k_V (ci := 4) (o := h a0 0) (T := TX4) (as := [(0, a2), (0, 4)]) (rest := []) (X := (some (0, r139), h)) (oX4_refPart hg139) gX4_refPart rfl (by decide) rfl (wsl_35 _ (List.mem_of_getElem? (i := 16) rfl)) rfl dX1_adapt_139 rfl ?_
  refine r_istore dX1_adapt_142 (Or.inl rfl) (by decide) (lv' := [(9, (0, r139)), (0, (11, a0)), (1, (0, a1)), (2, (0, a2)), (3, (0, l3)), (4, (0, l4)), (5, (0, l5)), (7, (0, l7)), (8, (0, l8)), (10, (2, l10)), (11, (2, l11))]) rfl ?_
  refine r_iload dX1_adapt_144 0 rfl (Or.inl rfl) ?_
  refine r_iconst dX1_adapt_146 (by decide) ?_
  refine r_icmp_ne dX1_adapt_147 (tgt := 200) (by decide) (fun hc => ?_) (fun hc => ?_)
  · have hr := ifn hr hc
    refine r_sub [1, 2, 3, 5, 6, 0] (lv' := [(0, (11, a0)), (1, (0, a1)), (2, (0, a2)), (4, (0, l4)), (5, (0, l5)), (9, (0, r139))]) rfl ?_
    exact oX1_adapt_b200 (K := K) (fun r z => k0 r z) hr hk
  · have hr := ifp hr hc
    refine r_iload dX1_adapt_150 9 rfl (Or.inr rfl) ?_
    refine r_scast 0 (v := (2, l10)) (w := (0, l10)) rfl zc hTz (st' := [(0, l10)]) rfl ?_
    refine r_if_eq dX1_adapt_152 (tgt := 172) (by decide) (fun hc => ?_) (fun hc => ?_)
    · have hr := ifp hr hc
      refine r_sub [1, 2, 4, 6, 8, 10] (lv' := [(0, (11, a0)), (1, (0, a1)), (3, (0, l3)), (5, (0, l5)), (8, (0, l8)), (11, (2, l11))]) rfl ?_
      exact oX1_adapt_b172 (K := K) (fun r z => k0 r z) hr hk
    · have hr := ifn hr hc
      refine r_aload_n dX1_adapt_155 rfl 1 rfl (nl rfl) ?_
      refine r_iload_n dX1_adapt_156 rfl 2 rfl (Or.inl rfl) ?_
      refine r_iload dX1_adapt_157 5 rfl (Or.inl rfl) ?_
      refine r_aload_n dX1_adapt_159 rfl 1 rfl (nl rfl) ?_
      refine r_iload_n dX1_adapt_160 rfl 4 rfl (Or.inl rfl) ?_
      refine r_iload dX1_adapt_161 7 rfl (Or.inl rfl) ?_
      obtain ⟨r163, hg163, hr⟩ := bnd hr
      refine k_V (ci := 1) (o := a0) (T := TX1) (as := [(0, l3), (0, l7)]) (rest := [(0, l4), (0, a1), (11, a0)]) (X := (some (0, r163), h)) (oX1_wantedOf hg163) gX1_wantedOf rfl (by decide) rfl (wsl_36 _ (List.mem_of_getElem? (i := 14) rfl)) rfl dX1_adapt_163 rfl ?_
      obtain ⟨q166, hg166, hr⟩ := bnd hr
      refine k_V (ci := 1) (o := a0) (T := TX1) (as := [(0, a1), (0, l4), (0, r163)]) (rest := []) (X := (some (2, q166.1), q166.2)) (oX1_wish hg166) gX1_wish rfl (by decide) rfl (wsl_35 _ (List.mem_of_getElem? (i := 3) rfl)) rfl dX1_adapt_166 rfl ?_
      refine r_scast 0 (v := (2, q166.1)) (w := (0, q166.1)) rfl zc hTz (st' := [(0, q166.1)]) rfl ?_
      refine r_if_eq dX1_adapt_169 (tgt := 198) (by decide) (fun hc => ?_) (fun hc => ?_)
      · have hr := ifp hr hc
        refine r_iconst dX1_adapt_198 (by decide) ?_
        refine r_scast 0 (v := (0, 0)) (w := (2, 0)) rfl cz (fun _ => Or.inl rfl) (st' := [(2, 0)]) rfl ?_
        obtain rfl := Option.some.inj hr
        exact r_ret dX1_adapt_199 rfl (Or.inr ⟨rfl, rfl⟩) (k0 _ hk) ⟨rfl, rfl⟩
      · have hr := ifn hr hc
        refine r_sub [1, 2, 4, 6, 8, 10] (lv' := [(0, (11, a0)), (1, (0, a1)), (3, (0, l3)), (5, (0, l5)), (8, (0, l8)), (11, (2, l11))]) rfl ?_
        exact oX1_adapt_b172 (K := K) (fun r z => k0 r z) hr hk
set_option maxRecDepth 100000 in
set_option maxHeartbeats 4000000 in
theorem oX1_adapt_b0 {a0 a1 a2 : Int} {K : Int × hH → Prop} (k0 : ∀ r, K (r) → x = (some (2, r.1), r.2)) {r : Int × hH} (hr : fX1_adapt h a0 a1 a2 = some r) (hk : K r) : Wq p l e R s m args below meth c D G A H0 true n0 M_X1_adapt x 0 0 0 [(0, (11, a0)), (1, (0, a1)), (2, (0, a2))] [] h := by
  unfold fX1_adapt at hr
  refine r_aload_n dX1_adapt_0 rfl 0 rfl (nl rfl) ?_
  refine r_get 1 14 (o := a0) (w := (50, h a0 14)) (T := TX1) (ref := "FollowingRefs$Judge") rfl (by decide) rfl (by decide) inlX1 (wsl_6 _ (List.mem_of_getElem? (i := 5) rfl)) rfl dX1_adapt_1 rfl ?_
  refine r_iload_n dX1_adapt_4 rfl 1 rfl (Or.inl rfl) ?_
  refine r_bipush dX1_adapt_5 (by decide) (by decide) ?_
  refine r_imul dX1_adapt_7 ?_
  refine r_iload_n dX1_adapt_8 rfl 2 rfl (Or.inl rfl) ?_
  refine r_iadd dX1_adapt_9 ?_
  obtain ⟨r10, hg10, hr⟩ := bnd hr
  refine k_SN (host := "FollowingRefs") (as := [(50, h a0 14), (0, w32 ((w32 (a1 * 6)) + a2))]) (rest := []) (X := (some (0, r10), h)) (oX11_at hg10) gX11_at rfl (List.mem_of_getElem? (i := 6) rfl) rfl dX1_adapt_10 rfl ?_
  refine r_istore_n dX1_adapt_13 rfl (Or.inl rfl) (by decide) (lv' := [(3, (0, r10)), (0, (11, a0)), (1, (0, a1)), (2, (0, a2))]) rfl ?_
  refine r_iload_n dX1_adapt_14 rfl 0 rfl (Or.inl rfl) ?_
  refine r_iconst dX1_adapt_15 (by decide) ?_
  refine r_icmp_ne dX1_adapt_16 (tgt := 21) (by decide) (fun hc => ?_) (fun hc => ?_)
  · have hr := ifn hr hc
    refine r_aload_n dX1_adapt_21 rfl 1 rfl (nl rfl) ?_
    refine r_get 1 0 (o := a0) (w := (14, h a0 0)) (T := TX1) (ref := "FollowingRefs$Judge") rfl (by decide) rfl (by decide) inlX1 (wsl_6 _ (List.mem_of_getElem? (i := 8) rfl)) rfl dX1_adapt_22 rfl ?_
    refine r_iload_n dX1_adapt_25 rfl 3 rfl (Or.inl rfl) ?_
    refine r_bipush dX1_adapt_26 (by decide) (by decide) ?_
    obtain ⟨r28, hg28, hr⟩ := bnd hr
    refine k_V (ci := 4) (o := h a0 0) (T := TX4) (as := [(0, a2), (0, 7)]) (rest := []) (X := (some (0, r28), h)) (oX4_refPart hg28) gX4_refPart rfl (by decide) rfl (wsl_35 _ (List.mem_of_getElem? (i := 16) rfl)) rfl dX1_adapt_28 rfl ?_
    refine r_istore dX1_adapt_31 (Or.inl rfl) (by decide) (lv' := [(4, (0, r28)), (3, (0, r10)), (0, (11, a0)), (1, (0, a1)), (2, (0, a2))]) rfl ?_
    refine r_aload_n dX1_adapt_33 rfl 2 rfl (nl rfl) ?_
    refine r_get 1 0 (o := a0) (w := (14, h a0 0)) (T := TX1) (ref := "FollowingRefs$Judge") rfl (by decide) rfl (by decide) inlX1 (wsl_6 _ (List.mem_of_getElem? (i := 8) rfl)) rfl dX1_adapt_34 rfl ?_
    refine r_iload_n dX1_adapt_37 rfl 4 rfl (Or.inl rfl) ?_
    refine r_bipush dX1_adapt_38 (by decide) (by decide) ?_
    obtain ⟨r40, hg40, hr⟩ := bnd hr
    refine k_V (ci := 4) (o := h a0 0) (T := TX4) (as := [(0, a2), (0, 8)]) (rest := []) (X := (some (0, r40), h)) (oX4_refPart hg40) gX4_refPart rfl (by decide) rfl (wsl_35 _ (List.mem_of_getElem? (i := 16) rfl)) rfl dX1_adapt_40 rfl ?_
    refine r_istore dX1_adapt_43 (Or.inl rfl) (by decide) (lv' := [(5, (0, r40)), (4, (0, r28)), (3, (0, r10)), (0, (11, a0)), (1, (0, a1)), (2, (0, a2))]) rfl ?_
    refine r_aload_n dX1_adapt_45 rfl 3 rfl (nl rfl) ?_
    refine r_get 1 0 (o := a0) (w := (14, h a0 0)) (T := TX1) (ref := "FollowingRefs$Judge") rfl (by decide) rfl (by decide) inlX1 (wsl_6 _ (List.mem_of_getElem? (i := 8) rfl)) rfl dX1_adapt_46 rfl ?_
    refine r_iload_n dX1_adapt_49 rfl 5 rfl (Or.inl rfl) ?_
    refine r_iconst dX1_adapt_50 (by decide) ?_
    obtain ⟨r51, hg51, hr⟩ := bnd hr
    refine k_V (ci := 4) (o := h a0 0) (T := TX4) (as := [(0, a2), (0, 2)]) (rest := []) (X := (some (0, r51), h)) (oX4_refPart hg51) gX4_refPart rfl (by decide) rfl (wsl_35 _ (List.mem_of_getElem? (i := 16) rfl)) rfl dX1_adapt_51 rfl ?_
    refine r_istore dX1_adapt_54 (Or.inl rfl) (by decide) (lv' := [(6, (0, r51)), (5, (0, r40)), (4, (0, r28)), (3, (0, r10)), (0, (11, a0)), (1, (0, a1)), (2, (0, a2))]) rfl ?_
    refine r_aload_n dX1_adapt_56 rfl 4 rfl (nl rfl) ?_
    refine r_get 1 0 (o := a0) (w := (14, h a0 0)) (T := TX1) (ref := "FollowingRefs$Judge") rfl (by decide) rfl (by decide) inlX1 (wsl_6 _ (List.mem_of_getElem? (i := 8) rfl)) rfl dX1_adapt_57 rfl ?_
    refine r_iload dX1_adapt_60 0 rfl (Or.inl rfl) ?_
    refine r_iconst dX1_adapt_62 (by decide) ?_
    obtain ⟨r63, hg63, hr⟩ := bnd hr
    refine k_V (ci := 4) (o := h a0 0) (T := TX4) (as := [(0, r51), (0, 1)]) (rest := []) (X := (some (0, r63), h)) (oX4_keyPart hg63) gX4_keyPart rfl (by decide) rfl (wsl_36 _ (List.mem_of_getElem? (i := 9) rfl)) rfl dX1_adapt_63 rfl ?_
    refine r_istore dX1_adapt_66 (Or.inl rfl) (by decide) (lv' := [(7, (0, r63)), (6, (0, r51)), (5, (0, r40)), (4, (0, r28)), (3, (0, r10)), (0, (11, a0)), (1, (0, a1)), (2, (0, a2))]) rfl ?_
    refine r_aload_n dX1_adapt_68 rfl 5 rfl (nl rfl) ?_
    refine r_get 1 0 (o := a0) (w := (14, h a0 0)) (T := TX1) (ref := "FollowingRefs$Judge") rfl (by decide) rfl (by decide) inlX1 (wsl_6 _ (List.mem_of_getElem? (i := 8) rfl)) rfl dX1_adapt_69 rfl ?_
    refine r_iload dX1_adapt_72 1 rfl (Or.inl rfl) ?_
    refine r_iconst dX1_adapt_74 (by decide) ?_
    obtain ⟨r75, hg75, hr⟩ := bnd hr
    refine k_V (ci := 4) (o := h a0 0) (T := TX4) (as := [(0, r51), (0, 2)]) (rest := []) (X := (some (0, r75), h)) (oX4_keyPart hg75) gX4_keyPart rfl (by decide) rfl (wsl_36 _ (List.mem_of_getElem? (i := 9) rfl)) rfl dX1_adapt_75 rfl ?_
    refine r_istore dX1_adapt_78 (Or.inl rfl) (by decide) (lv' := [(8, (0, r75)), (7, (0, r63)), (6, (0, r51)), (5, (0, r40)), (4, (0, r28)), (3, (0, r10)), (0, (11, a0)), (1, (0, a1)), (2, (0, a2))]) rfl ?_
    refine r_aload_n dX1_adapt_80 rfl 6 rfl (nl rfl) ?_
    refine r_get 1 0 (o := a0) (w := (14, h a0 0)) (T := TX1) (ref := "FollowingRefs$Judge") rfl (by decide) rfl (by decide) inlX1 (wsl_6 _ (List.mem_of_getElem? (i := 8) rfl)) rfl dX1_adapt_81 rfl ?_
    refine r_iload_n dX1_adapt_84 rfl 8 rfl (Or.inl rfl) ?_
    refine r_iconst dX1_adapt_85 (by decide) ?_
    obtain ⟨r86, hg86, hr⟩ := bnd hr
    refine k_V (ci := 4) (o := h a0 0) (T := TX4) (as := [(0, a2), (0, 3)]) (rest := []) (X := (some (0, r86), h)) (oX4_refPart hg86) gX4_refPart rfl (by decide) rfl (wsl_35 _ (List.mem_of_getElem? (i := 16) rfl)) rfl dX1_adapt_86 rfl ?_
    refine r_istore dX1_adapt_89 (Or.inl rfl) (by decide) (lv' := [(9, (0, r86)), (8, (0, r75)), (7, (0, r63)), (6, (0, r51)), (5, (0, r40)), (4, (0, r28)), (3, (0, r10)), (0, (11, a0)), (1, (0, a1)), (2, (0, a2))]) rfl ?_
    refine r_aload_n dX1_adapt_91 rfl 7 rfl (nl rfl) ?_
    refine r_get 1 13 (o := a0) (w := (50, h a0 13)) (T := TX1) (ref := "FollowingRefs$Judge") rfl (by decide) rfl (by decide) inlX1 (wsl_6 _ (List.mem_of_getElem? (i := 4) rfl)) rfl dX1_adapt_92 rfl ?_
    refine r_iload_n dX1_adapt_95 rfl 6 rfl (Or.inl rfl) ?_
    obtain ⟨r96, hg96, hr⟩ := bnd hr
    refine k_SN (host := "FollowingRefs") (as := [(50, h a0 13), (0, r10)]) (rest := []) (X := (some (0, r96), h)) (oX11_at hg96) gX11_at rfl (List.mem_of_getElem? (i := 6) rfl) rfl dX1_adapt_96 rfl ?_
    refine r_iconst dX1_adapt_99 (by decide) ?_
    refine r_icmp_ne dX1_adapt_100 (tgt := 200) (by decide) (fun hc => ?_) (fun hc => ?_)
    · have hr := ifn hr hc
      refine r_sub [7, 8, 9, 5, 4, 0] (lv' := [(0, (11, a0)), (1, (0, a1)), (2, (0, a2)), (4, (0, r28)), (5, (0, r40)), (9, (0, r86))]) rfl ?_
      exact oX1_adapt_b200 (K := K) (fun r z => k0 r z) hr hk
    · have hr := ifp hr hc
      refine r_aload_n dX1_adapt_103 rfl 7 rfl (nl rfl) ?_
      refine r_iload_n dX1_adapt_104 rfl 6 rfl (Or.inl rfl) ?_
      refine r_iload dX1_adapt_105 2 rfl (Or.inl rfl) ?_
      obtain ⟨r107, hg107, hr⟩ := bnd hr
      refine k_V (ci := 1) (o := a0) (T := TX1) (as := [(0, r10), (0, r63)]) (rest := []) (X := (some (2, r107), h)) (oX1_becomesAnother hg107) gX1_becomesAnother rfl (by decide) rfl (wsl_36 _ (List.mem_of_getElem? (i := 10) rfl)) rfl dX1_adapt_107 rfl ?_
      refine r_istore dX1_adapt_110 (Or.inr rfl) (by decide) (lv' := [(10, (2, r107)), (9, (0, r86)), (8, (0, r75)), (7, (0, r63)), (6, (0, r51)), (5, (0, r40)), (4, (0, r28)), (3, (0, r10)), (0, (11, a0)), (1, (0, a1)), (2, (0, a2))]) rfl ?_
      refine r_aload_n dX1_adapt_112 rfl 8 rfl (nl rfl) ?_
      refine r_iload_n dX1_adapt_113 rfl 7 rfl (Or.inl rfl) ?_
      refine r_iload dX1_adapt_114 2 rfl (Or.inl rfl) ?_
      obtain ⟨r116, hg116, hr⟩ := bnd hr
      refine k_V (ci := 1) (o := a0) (T := TX1) (as := [(0, r10), (0, r75)]) (rest := []) (X := (some (2, r116), h)) (oX1_becomesAnother hg116) gX1_becomesAnother rfl (by decide) rfl (wsl_36 _ (List.mem_of_getElem? (i := 10) rfl)) rfl dX1_adapt_116 rfl ?_
      refine r_istore dX1_adapt_119 (Or.inr rfl) (by decide) (lv' := [(11, (2, r116)), (10, (2, r107)), (9, (0, r86)), (8, (0, r75)), (7, (0, r63)), (6, (0, r51)), (5, (0, r40)), (4, (0, r28)), (3, (0, r10)), (0, (11, a0)), (1, (0, a1)), (2, (0, a2))]) rfl ?_
      refine r_iload dX1_adapt_121 1 rfl (Or.inr rfl) ?_
      refine r_scast 0 (v := (2, r107)) (w := (0, r107)) rfl zc hTz (st' := [(0, r107)]) rfl ?_
      refine r_if_ne dX1_adapt_123 (tgt := 133) (by decide) (fun hc => ?_) (fun hc => ?_)
      · have hr := ifn hr hc
        refine r_sub [9, 10, 11, 8, 7, 6, 4, 3, 1, 0] (lv' := [(0, (11, a0)), (1, (0, a1)), (2, (0, a2)), (3, (0, r10)), (4, (0, r28)), (5, (0, r40)), (7, (0, r63)), (8, (0, r75)), (10, (2, r107)), (11, (2, r116))]) rfl ?_
        exact oX1_adapt_b133 (K := K) (fun r z => k0 r z) hr hk
      · have hr := ifp hr hc
        refine r_iload dX1_adapt_126 0 rfl (Or.inr rfl) ?_
        refine r_scast 0 (v := (2, r116)) (w := (0, r116)) rfl zc hTz (st' := [(0, r116)]) rfl ?_
        refine r_if_ne dX1_adapt_128 (tgt := 133) (by decide) (fun hc => ?_) (fun hc => ?_)
        · have hr := ifn hr hc
          refine r_sub [9, 10, 11, 8, 7, 6, 4, 3, 1, 0] (lv' := [(0, (11, a0)), (1, (0, a1)), (2, (0, a2)), (3, (0, r10)), (4, (0, r28)), (5, (0, r40)), (7, (0, r63)), (8, (0, r75)), (10, (2, r107)), (11, (2, r116))]) rfl ?_
          exact oX1_adapt_b133 (K := K) (fun r z => k0 r z) hr hk
        · have hr := ifp hr hc
          refine r_iconst dX1_adapt_131 (by decide) ?_
          refine r_scast 0 (v := (0, 1)) (w := (2, 1)) rfl cz (fun _ => Or.inr rfl) (st' := [(2, 1)]) rfl ?_
          obtain rfl := Option.some.inj hr
          exact r_ret dX1_adapt_132 rfl (Or.inr ⟨rfl, rfl⟩) (k0 _ hk) ⟨rfl, rfl⟩
  · have hr := ifp hr hc
    refine r_iconst dX1_adapt_19 (by decide) ?_
    refine r_scast 0 (v := (0, 1)) (w := (2, 1)) rfl cz (fun _ => Or.inr rfl) (st' := [(2, 1)]) rfl ?_
    obtain rfl := Option.some.inj hr
    exact r_ret dX1_adapt_20 rfl (Or.inr ⟨rfl, rfl⟩) (k0 _ hk) ⟨rfl, rfl⟩
end M_X1_adapt
theorem oX1_adapt {l : Launch} {D : va_G} {G : gG} {h : hH} {a0 a1 a2 : Int} {r : Int × hH} (hr : fX1_adapt h a0 a1 a2 = some r) : Ctr l D G true yX1_adapt M_X1_adapt [(11, a0), (0, a1), (0, a2)] h (some (2, r.1), r.2) :=
  Ctr_of (by decide) rfl (fun z => by cases z) (nl rfl) (fun {p e R s m args below meth c A H0} => by
    exact oX1_adapt_b0 (K := fun z9 => z9 = r) (fun r9 z => by rw [z]) hr rfl)
/-! X1_spreadValues -/
theorem dX1_spreadValues_0 : decode cX1_spreadValues 0 = .ok (.aload_n 0, 1) := by decide +kernel
theorem dX1_spreadValues_1 : decode cX1_spreadValues 1 = .ok (.iconst 1, 1) := by decide +kernel
theorem dX1_spreadValues_2 : decode cX1_spreadValues 2 = .ok (.putfield 162, 3) := by decide +kernel
theorem dX1_spreadValues_5 : decode cX1_spreadValues 5 = .ok (.iconst 0, 1) := by decide +kernel
theorem dX1_spreadValues_6 : decode cX1_spreadValues 6 = .ok (.istore_n 1, 1) := by decide +kernel
theorem dX1_spreadValues_7 : decode cX1_spreadValues 7 = .ok (.iload_n 1, 1) := by decide +kernel
theorem dX1_spreadValues_8 : decode cX1_spreadValues 8 = .ok (.aload_n 0, 1) := by decide +kernel
theorem dX1_spreadValues_9 : decode cX1_spreadValues 9 = .ok (.getfield 38, 3) := by decide +kernel
theorem dX1_spreadValues_12 : decode cX1_spreadValues 12 = .ok (.arraylength, 1) := by decide +kernel
theorem dX1_spreadValues_13 : decode cX1_spreadValues 13 = .ok (.if_icmp .gt 85, 3) := by decide +kernel
theorem dX1_spreadValues_16 : decode cX1_spreadValues 16 = .ok (.aload_n 0, 1) := by decide +kernel
theorem dX1_spreadValues_17 : decode cX1_spreadValues 17 = .ok (.getfield 162, 3) := by decide +kernel
theorem dX1_spreadValues_20 : decode cX1_spreadValues 20 = .ok (.ifCond .eq 78, 3) := by decide +kernel
theorem dX1_spreadValues_23 : decode cX1_spreadValues 23 = .ok (.aload_n 0, 1) := by decide +kernel
theorem dX1_spreadValues_24 : decode cX1_spreadValues 24 = .ok (.iconst 0, 1) := by decide +kernel
theorem dX1_spreadValues_25 : decode cX1_spreadValues 25 = .ok (.putfield 162, 3) := by decide +kernel
theorem dX1_spreadValues_28 : decode cX1_spreadValues 28 = .ok (.iconst 0, 1) := by decide +kernel
theorem dX1_spreadValues_29 : decode cX1_spreadValues 29 = .ok (.istore_n 2, 1) := by decide +kernel
theorem dX1_spreadValues_30 : decode cX1_spreadValues 30 = .ok (.iload_n 2, 1) := by decide +kernel
theorem dX1_spreadValues_31 : decode cX1_spreadValues 31 = .ok (.aload_n 0, 1) := by decide +kernel
theorem dX1_spreadValues_32 : decode cX1_spreadValues 32 = .ok (.getfield 48, 3) := by decide +kernel
theorem dX1_spreadValues_35 : decode cX1_spreadValues 35 = .ok (.getfield 124, 3) := by decide +kernel
theorem dX1_spreadValues_38 : decode cX1_spreadValues 38 = .ok (.getfield 138, 3) := by decide +kernel
theorem dX1_spreadValues_41 : decode cX1_spreadValues 41 = .ok (.if_icmp .ge 51, 3) := by decide +kernel
theorem dX1_spreadValues_44 : decode cX1_spreadValues 44 = .ok (.iconst 0, 1) := by decide +kernel
theorem dX1_spreadValues_45 : decode cX1_spreadValues 45 = .ok (.istore_n 3, 1) := by decide +kernel
theorem dX1_spreadValues_46 : decode cX1_spreadValues 46 = .ok (.iload_n 3, 1) := by decide +kernel
theorem dX1_spreadValues_47 : decode cX1_spreadValues 47 = .ok (.aload_n 0, 1) := by decide +kernel
theorem dX1_spreadValues_48 : decode cX1_spreadValues 48 = .ok (.getfield 44, 3) := by decide +kernel
theorem dX1_spreadValues_51 : decode cX1_spreadValues 51 = .ok (.getfield 141, 3) := by decide +kernel
theorem dX1_spreadValues_54 : decode cX1_spreadValues 54 = .ok (.if_icmp .ge 32, 3) := by decide +kernel
theorem dX1_spreadValues_57 : decode cX1_spreadValues 57 = .ok (.aload_n 0, 1) := by decide +kernel
theorem dX1_spreadValues_58 : decode cX1_spreadValues 58 = .ok (.getfield 32, 3) := by decide +kernel
theorem dX1_spreadValues_61 : decode cX1_spreadValues 61 = .ok (.iload_n 2, 1) := by decide +kernel
theorem dX1_spreadValues_62 : decode cX1_spreadValues 62 = .ok (.invokestatic 165, 3) := by decide +kernel
theorem dX1_spreadValues_65 : decode cX1_spreadValues 65 = .ok (.iconst (-1), 1) := by decide +kernel
theorem dX1_spreadValues_66 : decode cX1_spreadValues 66 = .ok (.if_icmp .ne 14, 3) := by decide +kernel
theorem dX1_spreadValues_69 : decode cX1_spreadValues 69 = .ok (.aload_n 0, 1) := by decide +kernel
theorem dX1_spreadValues_70 : decode cX1_spreadValues 70 = .ok (.iload_n 2, 1) := by decide +kernel
theorem dX1_spreadValues_71 : decode cX1_spreadValues 71 = .ok (.iload_n 3, 1) := by decide +kernel
theorem dX1_spreadValues_72 : decode cX1_spreadValues 72 = .ok (.invokevirtual 180, 3) := by decide +kernel
theorem dX1_spreadValues_75 : decode cX1_spreadValues 75 = .ok (.ifCond .ne 5, 3) := by decide +kernel
theorem dX1_spreadValues_78 : decode cX1_spreadValues 78 = .ok (.iconst 0, 1) := by decide +kernel
theorem dX1_spreadValues_79 : decode cX1_spreadValues 79 = .ok (.ireturn, 1) := by decide +kernel
theorem dX1_spreadValues_80 : decode cX1_spreadValues 80 = .ok (.iinc 3 1, 3) := by decide +kernel
theorem dX1_spreadValues_83 : decode cX1_spreadValues 83 = .ok (.goto (-37), 3) := by decide +kernel
theorem dX1_spreadValues_86 : decode cX1_spreadValues 86 = .ok (.iinc 2 1, 3) := by decide +kernel
theorem dX1_spreadValues_89 : decode cX1_spreadValues 89 = .ok (.goto (-59), 3) := by decide +kernel
theorem dX1_spreadValues_92 : decode cX1_spreadValues 92 = .ok (.iinc 1 1, 3) := by decide +kernel
theorem dX1_spreadValues_95 : decode cX1_spreadValues 95 = .ok (.goto (-88), 3) := by decide +kernel
theorem dX1_spreadValues_98 : decode cX1_spreadValues 98 = .ok (.iconst 1, 1) := by decide +kernel
theorem dX1_spreadValues_99 : decode cX1_spreadValues 99 = .ok (.ireturn, 1) := by decide +kernel
abbrev M_X1_spreadValues : mM := (cX1_spreadValues, 4, RX1, some .boolean, false, 4, 96, 0, 0)
theorem gX1_spreadValues : cI yX1_spreadValues M_X1_spreadValues 0 := ⟨(wsl_36 _ (List.mem_of_getElem? (i := 2) rfl)), (wsl_36 _ (List.mem_of_getElem? (i := 3) rfl)), (wsl_2 _ (List.mem_of_getElem? (i := 19) rfl)), (wsl_36 _ (List.mem_of_getElem? (i := 4) rfl)), by decide +kernel⟩
noncomputable def fX1_spreadValues_s46 (h0 : hH) (a0 l1 l2 : Int) : hH × Int → Option ((hH × Int) ⊕ ((hH × Int) ⊕ ((hH × Int) ⊕ (Int × hH)))) := fun (h, l3) =>
  if l3 < h (h a0 0) 2 then
    (fX11_at h (h a0 13) l2).bind fun r62 =>
    if r62 = -1 then
      (fX1_adapt h a0 l2 l3).bind fun q72 =>
      if q72.1 = 0 then
        some (.inr (.inr (.inr ((0, q72.2)))))
      else
        some (.inl (q72.2, w32 (l3 + 1)))
    else
      some (.inl (h, w32 (l3 + 1)))
  else
    some (.inr (.inl (h, w32 (l2 + 1))))
noncomputable def fX1_spreadValues_s30 (h0 : hH) (a0 l1 : Int) : hH × Int → Option ((hH × Int) ⊕ ((hH × Int) ⊕ (Int × hH))) := fun (h, l2) =>
  if l2 < h (h (h a0 1) 0) 0 then
    lpO (fX1_spreadValues_s46 h a0 l1 l2) (h, 0)
  else
    some (.inr (.inl (h, w32 (l1 + 1))))
noncomputable def fX1_spreadValues_s7 (h0 : hH) (a0 : Int) : hH × Int → Option ((hH × Int) ⊕ (Int × hH)) := fun (h, l1) =>
  if h (h a0 15) (-1) < l1 then
    some (.inr ((1, h)))
  else
    if h a0 10 = 0 then
      some (.inr ((1, h)))
    else
      (pput h a0 10 0).bind fun h25 =>
      lpO (fX1_spreadValues_s30 h25 a0 l1) (h25, 0)
noncomputable def fX1_spreadValues (h : hH) (a0 : Int) : Option (Int × hH) :=
  (pput h a0 10 1).bind fun h2 =>
  lpO (fX1_spreadValues_s7 h2 a0) (h2, 0)
section M_X1_spreadValues
variable {p : Program} {l : Launch} {e : Env} {R : Room} {s : State} {m : MethodId} {args : Array Value} {below : List Frame} {meth : Method} {c : Code} {D : va_G} {G : gG} {A : Nat → Prop} {H0 : Heap} {n0 : Int} {x : Option vV × hH} {h : hH}
set_option maxRecDepth 100000 in
set_option maxHeartbeats 4000000 in
theorem oX1_spreadValues_s46 {h0 : hH} {a0 l1 l2 l3 : Int} {K : (hH × Int) ⊕ ((hH × Int) ⊕ ((hH × Int) ⊕ (Int × hH))) → Prop} (k0 : ∀ r, K (.inr (.inr (.inr (r)))) → x = (some (2, r.1), r.2)) (k1 : ∀ (h : hH) (l1 : Int), K (.inr (.inr (.inl (h, l1)))) → Wq p l e R s m args below meth c D G A H0 true n0 M_X1_spreadValues x 0 0 7 [(0, (11, a0)), (1, (0, l1))] [] h) (k2 : ∀ (h : hH) (l2 : Int), K (.inr (.inl (h, l2))) → Wq p l e R s m args below meth c D G A H0 true n0 M_X1_spreadValues x 0 0 30 [(0, (11, a0)), (1, (0, l1)), (2, (0, l2))] [] h) (k3 : ∀ (h : hH) (l3 : Int), K (.inl (h, l3)) → Wq p l e R s m args below meth c D G A H0 true n0 M_X1_spreadValues x 0 0 46 [(0, (11, a0)), (1, (0, l1)), (2, (0, l2)), (3, (0, l3))] [] h) {r : (hH × Int) ⊕ ((hH × Int) ⊕ ((hH × Int) ⊕ (Int × hH)))} (hr : fX1_spreadValues_s46 h0 a0 l1 l2 (h, l3) = some r) (hk : K r) : Wq p l e R s m args below meth c D G A H0 true n0 M_X1_spreadValues x 0 0 46 [(0, (11, a0)), (1, (0, l1)), (2, (0, l2)), (3, (0, l3))] [] h := by
  unfold fX1_spreadValues_s46 at hr
  refine r_iload_n dX1_spreadValues_46 rfl 3 rfl (Or.inl rfl) ?_
  refine r_aload_n dX1_spreadValues_47 rfl 0 rfl (nl rfl) ?_
  refine r_get 1 0 (o := a0) (w := (14, h a0 0)) (T := TX1) (ref := "FollowingRefs$Judge") rfl (by decide) rfl (by decide) inlX1 (wsl_6 _ (List.mem_of_getElem? (i := 8) rfl)) rfl dX1_spreadValues_48 rfl ?_
  refine r_get 4 2 (o := h a0 0) (w := (0, h (h a0 0) 2)) (T := TX4) (ref := "FollowingRefs$Schema") rfl (by decide) rfl (by decide) inlX4 (wsl_33 _ (List.mem_of_getElem? (i := 21) rfl)) rfl dX1_spreadValues_51 rfl ?_
  refine r_icmp_ge dX1_spreadValues_54 (tgt := 86) (by decide) (fun hc => ?_) (fun hc => ?_)
  · have hr := ifn hr hc
    refine r_iinc (k := 2) (v := l2) dX1_spreadValues_86 rfl (by decide) (lv' := [(2, (0, w32 (l2 + 1))), (0, (11, a0)), (1, (0, l1)), (3, (0, l3))]) rfl ?_
    refine r_goto dX1_spreadValues_89 (tgt := 30) (by decide) ?_
    refine r_sub [1, 2, 0] (lv' := [(0, (11, a0)), (1, (0, l1)), (2, (0, w32 (l2 + 1)))]) rfl ?_
    obtain rfl := Option.some.inj hr
    exact k2 _ _ hk
  · have hr := ifp hr hc
    refine r_aload_n dX1_spreadValues_57 rfl 0 rfl (nl rfl) ?_
    refine r_get 1 13 (o := a0) (w := (50, h a0 13)) (T := TX1) (ref := "FollowingRefs$Judge") rfl (by decide) rfl (by decide) inlX1 (wsl_6 _ (List.mem_of_getElem? (i := 4) rfl)) rfl dX1_spreadValues_58 rfl ?_
    refine r_iload_n dX1_spreadValues_61 rfl 2 rfl (Or.inl rfl) ?_
    obtain ⟨r62, hg62, hr⟩ := bnd hr
    refine k_SN (host := "FollowingRefs") (as := [(50, h a0 13), (0, l2)]) (rest := []) (X := (some (0, r62), h)) (oX11_at hg62) gX11_at rfl (List.mem_of_getElem? (i := 6) rfl) rfl dX1_spreadValues_62 rfl ?_
    refine r_iconst dX1_spreadValues_65 (by decide) ?_
    refine r_icmp_ne dX1_spreadValues_66 (tgt := 80) (by decide) (fun hc => ?_) (fun hc => ?_)
    · have hr := ifn hr hc
      refine r_iinc (k := 3) (v := l3) dX1_spreadValues_80 rfl (by decide) (lv' := [(3, (0, w32 (l3 + 1))), (0, (11, a0)), (1, (0, l1)), (2, (0, l2))]) rfl ?_
      refine r_goto dX1_spreadValues_83 (tgt := 46) (by decide) ?_
      refine r_sub [1, 2, 3, 0] (lv' := [(0, (11, a0)), (1, (0, l1)), (2, (0, l2)), (3, (0, w32 (l3 + 1)))]) rfl ?_
      obtain rfl := Option.some.inj hr
      exact k3 _ _ hk
    · have hr := ifp hr hc
      refine r_aload_n dX1_spreadValues_69 rfl 0 rfl (nl rfl) ?_
      refine r_iload_n dX1_spreadValues_70 rfl 2 rfl (Or.inl rfl) ?_
      refine r_iload_n dX1_spreadValues_71 rfl 3 rfl (Or.inl rfl) ?_
      obtain ⟨q72, hg72, hr⟩ := bnd hr
      refine k_V (ci := 1) (o := a0) (T := TX1) (as := [(0, l2), (0, l3)]) (rest := []) (X := (some (2, q72.1), q72.2)) (oX1_adapt hg72) gX1_adapt rfl (by decide) rfl (wsl_36 _ (List.mem_of_getElem? (i := 5) rfl)) rfl dX1_spreadValues_72 rfl ?_
      refine r_scast 0 (v := (2, q72.1)) (w := (0, q72.1)) rfl zc hTz (st' := [(0, q72.1)]) rfl ?_
      refine r_if_ne dX1_spreadValues_75 (tgt := 80) (by decide) (fun hc => ?_) (fun hc => ?_)
      · have hr := ifn hr hc
        refine r_iinc (k := 3) (v := l3) dX1_spreadValues_80 rfl (by decide) (lv' := [(3, (0, w32 (l3 + 1))), (0, (11, a0)), (1, (0, l1)), (2, (0, l2))]) rfl ?_
        refine r_goto dX1_spreadValues_83 (tgt := 46) (by decide) ?_
        refine r_sub [1, 2, 3, 0] (lv' := [(0, (11, a0)), (1, (0, l1)), (2, (0, l2)), (3, (0, w32 (l3 + 1)))]) rfl ?_
        obtain rfl := Option.some.inj hr
        exact k3 _ _ hk
      · have hr := ifp hr hc
        refine r_iconst dX1_spreadValues_78 (by decide) ?_
        refine r_scast 0 (v := (0, 0)) (w := (2, 0)) rfl cz (fun _ => Or.inl rfl) (st' := [(2, 0)]) rfl ?_
        obtain rfl := Option.some.inj hr
        exact r_ret dX1_spreadValues_79 rfl (Or.inr ⟨rfl, rfl⟩) (k0 _ hk) ⟨rfl, rfl⟩
set_option maxRecDepth 100000 in
set_option maxHeartbeats 4000000 in
theorem oX1_spreadValues_s30 {h0 : hH} {a0 l1 l2 : Int} {K : (hH × Int) ⊕ ((hH × Int) ⊕ (Int × hH)) → Prop} (k0 : ∀ r, K (.inr (.inr (r))) → x = (some (2, r.1), r.2)) (k1 : ∀ (h : hH) (l1 : Int), K (.inr (.inl (h, l1))) → Wq p l e R s m args below meth c D G A H0 true n0 M_X1_spreadValues x 0 0 7 [(0, (11, a0)), (1, (0, l1))] [] h) (k2 : ∀ (h : hH) (l2 : Int), K (.inl (h, l2)) → Wq p l e R s m args below meth c D G A H0 true n0 M_X1_spreadValues x 0 0 30 [(0, (11, a0)), (1, (0, l1)), (2, (0, l2))] [] h) {r : (hH × Int) ⊕ ((hH × Int) ⊕ (Int × hH))} (hr : fX1_spreadValues_s30 h0 a0 l1 (h, l2) = some r) (hk : K r) : Wq p l e R s m args below meth c D G A H0 true n0 M_X1_spreadValues x 0 0 30 [(0, (11, a0)), (1, (0, l1)), (2, (0, l2))] [] h := by
  unfold fX1_spreadValues_s30 at hr
  refine r_iload_n dX1_spreadValues_30 rfl 2 rfl (Or.inl rfl) ?_
  refine r_aload_n dX1_spreadValues_31 rfl 0 rfl (nl rfl) ?_
  refine r_get 1 1 (o := a0) (w := (18, h a0 1)) (T := TX1) (ref := "FollowingRefs$Judge") rfl (by decide) rfl (by decide) inlX1 (wsl_6 _ (List.mem_of_getElem? (i := 9) rfl)) rfl dX1_spreadValues_32 rfl ?_
  refine r_get 8 0 (o := h a0 1) (w := (13, h (h a0 1) 0)) (T := TX8) (ref := "FollowingRefs$State") rfl (by decide) rfl (by decide) inlX8 (wsl_32 _ (List.mem_of_getElem? (i := 22) rfl)) rfl dX1_spreadValues_35 rfl ?_
  refine r_get 3 0 (o := h (h a0 1) 0) (w := (0, h (h (h a0 1) 0) 0)) (T := TX3) (ref := "FollowingRefs$Rows") rfl (by decide) rfl (by decide) inlX3 (wsl_33 _ (List.mem_of_getElem? (i := 20) rfl)) rfl dX1_spreadValues_38 rfl ?_
  refine r_icmp_ge dX1_spreadValues_41 (tgt := 92) (by decide) (fun hc => ?_) (fun hc => ?_)
  · have hr := ifn hr hc
    refine r_iinc (k := 1) (v := l1) dX1_spreadValues_92 rfl (by decide) (lv' := [(1, (0, w32 (l1 + 1))), (0, (11, a0)), (2, (0, l2))]) rfl ?_
    refine r_goto dX1_spreadValues_95 (tgt := 7) (by decide) ?_
    refine r_sub [1, 0] (lv' := [(0, (11, a0)), (1, (0, w32 (l1 + 1)))]) rfl ?_
    obtain rfl := Option.some.inj hr
    exact k1 _ _ hk
  · have hr := ifp hr hc
    refine r_iconst dX1_spreadValues_44 (by decide) ?_
    refine r_istore_n dX1_spreadValues_45 rfl (Or.inl rfl) (by decide) (lv' := [(3, (0, 0)), (0, (11, a0)), (1, (0, l1)), (2, (0, l2))]) rfl ?_
    refine r_sub [1, 2, 3, 0] (lv' := [(0, (11, a0)), (1, (0, l1)), (2, (0, l2)), (3, (0, 0))]) rfl ?_
    exact lp_ok (w := fun (q : hH × Int) => Wq p l e R s m args below meth c D G A H0 true n0 M_X1_spreadValues x 0 0 46 [(0, (11, a0)), (1, (0, l1)), (2, (0, l2)), (3, (0, q.2))] [] (q.1)) (K := K) (fun ⟨q0, q1⟩ r h1 h2 => oX1_spreadValues_s46 (K := Sum.elim (fun (q : hH × Int) => Wq p l e R s m args below meth c D G A H0 true n0 M_X1_spreadValues x 0 0 46 [(0, (11, a0)), (1, (0, l1)), (2, (0, l2)), (3, (0, q.2))] [] (q.1)) (K)) (fun r z => k0 r z) (fun _ _ z => k1 _ _ z) (fun _ _ z => k2 _ _ z) (fun _ _ z => z) h1 h2) hr hk
set_option maxRecDepth 100000 in
set_option maxHeartbeats 4000000 in
theorem oX1_spreadValues_s7 {h0 : hH} {a0 l1 : Int} {K : (hH × Int) ⊕ (Int × hH) → Prop} (k0 : ∀ r, K (.inr (r)) → x = (some (2, r.1), r.2)) (k1 : ∀ (h : hH) (l1 : Int), K (.inl (h, l1)) → Wq p l e R s m args below meth c D G A H0 true n0 M_X1_spreadValues x 0 0 7 [(0, (11, a0)), (1, (0, l1))] [] h) {r : (hH × Int) ⊕ (Int × hH)} (hr : fX1_spreadValues_s7 h0 a0 (h, l1) = some r) (hk : K r) : Wq p l e R s m args below meth c D G A H0 true n0 M_X1_spreadValues x 0 0 7 [(0, (11, a0)), (1, (0, l1))] [] h := by
  unfold fX1_spreadValues_s7 at hr
  refine r_iload_n dX1_spreadValues_7 rfl 1 rfl (Or.inl rfl) ?_
  refine r_aload_n dX1_spreadValues_8 rfl 0 rfl (nl rfl) ?_
  refine r_get 1 15 (o := a0) (w := (50, h a0 15)) (T := TX1) (ref := "FollowingRefs$Judge") rfl (by decide) rfl (by decide) inlX1 (wsl_6 _ (List.mem_of_getElem? (i := 6) rfl)) rfl dX1_spreadValues_9 rfl ?_
  refine r_alen (t := 50) (by decide) (by decide) dX1_spreadValues_12 ?_
  refine r_icmp_gt dX1_spreadValues_13 (tgt := 98) (by decide) (fun hc => ?_) (fun hc => ?_)
  · have hr := ifp hr hc
    refine r_iconst dX1_spreadValues_98 (by decide) ?_
    refine r_scast 0 (v := (0, 1)) (w := (2, 1)) rfl cz (fun _ => Or.inr rfl) (st' := [(2, 1)]) rfl ?_
    obtain rfl := Option.some.inj hr
    exact r_ret dX1_spreadValues_99 rfl (Or.inr ⟨rfl, rfl⟩) (k0 _ hk) ⟨rfl, rfl⟩
  · have hr := ifn hr hc
    refine r_aload_n dX1_spreadValues_16 rfl 0 rfl (nl rfl) ?_
    refine r_get 1 10 (o := a0) (w := (2, h a0 10)) (T := TX1) (ref := "FollowingRefs$Judge") rfl (by decide) rfl (by decide) inlX1 (wsl_35 _ (List.mem_of_getElem? (i := 7) rfl)) rfl dX1_spreadValues_17 rfl ?_
    refine r_scast 0 (v := (2, h a0 10)) (w := (0, h a0 10)) rfl zc hTz (st' := [(0, h a0 10)]) rfl ?_
    refine r_if_eq dX1_spreadValues_20 (tgt := 98) (by decide) (fun hc => ?_) (fun hc => ?_)
    · have hr := ifp hr hc
      refine r_iconst dX1_spreadValues_98 (by decide) ?_
      refine r_scast 0 (v := (0, 1)) (w := (2, 1)) rfl cz (fun _ => Or.inr rfl) (st' := [(2, 1)]) rfl ?_
      obtain rfl := Option.some.inj hr
      exact r_ret dX1_spreadValues_99 rfl (Or.inr ⟨rfl, rfl⟩) (k0 _ hk) ⟨rfl, rfl⟩
    · have hr := ifn hr hc
      refine r_aload_n dX1_spreadValues_23 rfl 0 rfl (nl rfl) ?_
      refine r_iconst dX1_spreadValues_24 (by decide) ?_
      refine r_scast 0 (v := (0, 0)) (w := (2, 0)) rfl cz (fun _ => Or.inl rfl) (st' := [(2, 0), (11, a0)]) rfl ?_
      obtain ⟨h25, hg25, hr⟩ := bnd hr
      refine r_put' 1 10 (t := 2) (ref := "FollowingRefs$Judge") hg25 rfl tyX1 tyX1_ok nmX1 rfl (by decide) rfl (by decide) inlX1 (wsl_35 _ (List.mem_of_getElem? (i := 7) rfl)) rfl rfl (by decide +kernel) (by decide) rfl (Or.inr (Or.inr (Or.inl ⟨rfl, rfl⟩))) dX1_spreadValues_25 ?_
      refine r_iconst dX1_spreadValues_28 (by decide) ?_
      refine r_istore_n dX1_spreadValues_29 rfl (Or.inl rfl) (by decide) (lv' := [(2, (0, 0)), (0, (11, a0)), (1, (0, l1))]) rfl ?_
      refine r_sub [1, 2, 0] (lv' := [(0, (11, a0)), (1, (0, l1)), (2, (0, 0))]) rfl ?_
      exact lp_ok (w := fun (q : hH × Int) => Wq p l e R s m args below meth c D G A H0 true n0 M_X1_spreadValues x 0 0 30 [(0, (11, a0)), (1, (0, l1)), (2, (0, q.2))] [] (q.1)) (K := K) (fun ⟨q0, q1⟩ r h1 h2 => oX1_spreadValues_s30 (K := Sum.elim (fun (q : hH × Int) => Wq p l e R s m args below meth c D G A H0 true n0 M_X1_spreadValues x 0 0 30 [(0, (11, a0)), (1, (0, l1)), (2, (0, q.2))] [] (q.1)) (K)) (fun r z => k0 r z) (fun _ _ z => k1 _ _ z) (fun _ _ z => z) h1 h2) hr hk
set_option maxRecDepth 100000 in
set_option maxHeartbeats 4000000 in
theorem oX1_spreadValues_b0 {a0 : Int} {K : Int × hH → Prop} (k0 : ∀ r, K (r) → x = (some (2, r.1), r.2)) {r : Int × hH} (hr : fX1_spreadValues h a0 = some r) (hk : K r) : Wq p l e R s m args below meth c D G A H0 true n0 M_X1_spreadValues x 0 0 0 [(0, (11, a0))] [] h := by
  unfold fX1_spreadValues at hr
  refine r_aload_n dX1_spreadValues_0 rfl 0 rfl (nl rfl) ?_
  refine r_iconst dX1_spreadValues_1 (by decide) ?_
  refine r_scast 0 (v := (0, 1)) (w := (2, 1)) rfl cz (fun _ => Or.inr rfl) (st' := [(2, 1), (11, a0)]) rfl ?_
  obtain ⟨h2, hg2, hr⟩ := bnd hr
  refine r_put' 1 10 (t := 2) (ref := "FollowingRefs$Judge") hg2 rfl tyX1 tyX1_ok nmX1 rfl (by decide) rfl (by decide) inlX1 (wsl_35 _ (List.mem_of_getElem? (i := 7) rfl)) rfl rfl (by decide +kernel) (by decide) rfl (Or.inr (Or.inr (Or.inl ⟨rfl, rfl⟩))) dX1_spreadValues_2 ?_
  refine r_iconst dX1_spreadValues_5 (by decide) ?_
  refine r_istore_n dX1_spreadValues_6 rfl (Or.inl rfl) (by decide) (lv' := [(1, (0, 0)), (0, (11, a0))]) rfl ?_
  refine r_sub [1, 0] (lv' := [(0, (11, a0)), (1, (0, 0))]) rfl ?_
  exact lp_ok (w := fun (q : hH × Int) => Wq p l e R s m args below meth c D G A H0 true n0 M_X1_spreadValues x 0 0 7 [(0, (11, a0)), (1, (0, q.2))] [] (q.1)) (K := K) (fun ⟨q0, q1⟩ r h1 h2 => oX1_spreadValues_s7 (K := Sum.elim (fun (q : hH × Int) => Wq p l e R s m args below meth c D G A H0 true n0 M_X1_spreadValues x 0 0 7 [(0, (11, a0)), (1, (0, q.2))] [] (q.1)) (K)) (fun r z => k0 r z) (fun _ _ z => z) h1 h2) hr hk
end M_X1_spreadValues
theorem oX1_spreadValues {l : Launch} {D : va_G} {G : gG} {h : hH} {a0 : Int} {r : Int × hH} (hr : fX1_spreadValues h a0 = some r) : Ctr l D G true yX1_spreadValues M_X1_spreadValues [(11, a0)] h (some (2, r.1), r.2) :=
  Ctr_of (by decide) rfl (fun z => by cases z) (nl rfl) (fun {p e R s m args below meth c A H0} => by
    exact oX1_spreadValues_b0 (K := fun z9 => z9 = r) (fun r9 z => by rw [z]) hr rfl)
/-! X1_changeRow -/
theorem dX1_changeRow_0 : decode cX1_changeRow 0 = .ok (.iconst 0, 1) := by decide +kernel
theorem dX1_changeRow_1 : decode cX1_changeRow 1 = .ok (.istore_n 2, 1) := by decide +kernel
theorem dX1_changeRow_2 : decode cX1_changeRow 2 = .ok (.iconst 0, 1) := by decide +kernel
theorem dX1_changeRow_3 : decode cX1_changeRow 3 = .ok (.istore_n 3, 1) := by decide +kernel
theorem dX1_changeRow_4 : decode cX1_changeRow 4 = .ok (.iload_n 3, 1) := by decide +kernel
theorem dX1_changeRow_5 : decode cX1_changeRow 5 = .ok (.iconst 4, 1) := by decide +kernel
theorem dX1_changeRow_6 : decode cX1_changeRow 6 = .ok (.if_icmp .ge 35, 3) := by decide +kernel
theorem dX1_changeRow_9 : decode cX1_changeRow 9 = .ok (.aload_n 0, 1) := by decide +kernel
theorem dX1_changeRow_10 : decode cX1_changeRow 10 = .ok (.iload_n 1, 1) := by decide +kernel
theorem dX1_changeRow_11 : decode cX1_changeRow 11 = .ok (.iload_n 3, 1) := by decide +kernel
theorem dX1_changeRow_12 : decode cX1_changeRow 12 = .ok (.invokevirtual 186, 3) := by decide +kernel
theorem dX1_changeRow_15 : decode cX1_changeRow 15 = .ok (.ifCond .eq 20, 3) := by decide +kernel
theorem dX1_changeRow_18 : decode cX1_changeRow 18 = .ok (.aload_n 0, 1) := by decide +kernel
theorem dX1_changeRow_19 : decode cX1_changeRow 19 = .ok (.getfield 12, 3) := by decide +kernel
theorem dX1_changeRow_22 : decode cX1_changeRow 22 = .ok (.iload_n 1, 1) := by decide +kernel
theorem dX1_changeRow_23 : decode cX1_changeRow 23 = .ok (.iload_n 3, 1) := by decide +kernel
theorem dX1_changeRow_24 : decode cX1_changeRow 24 = .ok (.aload_n 0, 1) := by decide +kernel
theorem dX1_changeRow_25 : decode cX1_changeRow 25 = .ok (.iload_n 1, 1) := by decide +kernel
theorem dX1_changeRow_26 : decode cX1_changeRow 26 = .ok (.iload_n 3, 1) := by decide +kernel
theorem dX1_changeRow_27 : decode cX1_changeRow 27 = .ok (.invokevirtual 189, 3) := by decide +kernel
theorem dX1_changeRow_30 : decode cX1_changeRow 30 = .ok (.invokevirtual 206, 3) := by decide +kernel
theorem dX1_changeRow_33 : decode cX1_changeRow 33 = .ok (.iconst 1, 1) := by decide +kernel
theorem dX1_changeRow_34 : decode cX1_changeRow 34 = .ok (.istore_n 2, 1) := by decide +kernel
theorem dX1_changeRow_35 : decode cX1_changeRow 35 = .ok (.iinc 3 1, 3) := by decide +kernel
theorem dX1_changeRow_38 : decode cX1_changeRow 38 = .ok (.goto (-34), 3) := by decide +kernel
theorem dX1_changeRow_41 : decode cX1_changeRow 41 = .ok (.iload_n 2, 1) := by decide +kernel
theorem dX1_changeRow_42 : decode cX1_changeRow 42 = .ok (.ireturn, 1) := by decide +kernel
abbrev M_X1_changeRow : mM := (cX1_changeRow, 4, RX1, some .boolean, false, 3, 65, 0, 0)
theorem gX1_changeRow : cI yX1_changeRow M_X1_changeRow 1 := ⟨(wsl_37 _ (List.mem_of_getElem? (i := 1) rfl)), (wsl_37 _ (List.mem_of_getElem? (i := 2) rfl)), (wsl_2 _ (List.mem_of_getElem? (i := 19) rfl)), (wsl_37 _ (List.mem_of_getElem? (i := 3) rfl)), by decide +kernel⟩
noncomputable def fX1_changeRow_s4 (h0 : hH) (a0 a1 : Int) : hH × Int × Int → Option ((hH × Int × Int) ⊕ (Int × hH)) := fun (h, l2, l3) =>
  if l3 < 4 then
    (fX1_becomesAnother h a0 a1 l3).bind fun r12 =>
    if r12 = 0 then
      some (.inl (h, l2, w32 (l3 + 1)))
    else
      (fX1_wantedOf h a0 a1 l3).bind fun r27 =>
      (fX3_setValue h (h a0 2) a1 l3 r27).bind fun h30 =>
      some (.inl (h30, 1, w32 (l3 + 1)))
  else
    some (.inr ((l2, h)))
noncomputable def fX1_changeRow (h : hH) (a0 a1 : Int) : Option (Int × hH) :=
  lpO (fX1_changeRow_s4 h a0 a1) (h, 0, 0)
section M_X1_changeRow
variable {p : Program} {l : Launch} {e : Env} {R : Room} {s : State} {m : MethodId} {args : Array Value} {below : List Frame} {meth : Method} {c : Code} {D : va_G} {G : gG} {A : Nat → Prop} {H0 : Heap} {n0 : Int} {x : Option vV × hH} {h : hH}
set_option maxRecDepth 100000 in
set_option maxHeartbeats 4000000 in
theorem oX1_changeRow_s4 {h0 : hH} {a0 a1 l2 l3 : Int} {K : (hH × Int × Int) ⊕ (Int × hH) → Prop} (k0 : ∀ r, K (.inr (r)) → x = (some (2, r.1), r.2)) (k1 : ∀ (h : hH) (l2 : Int) (l3 : Int), K (.inl (h, l2, l3)) → Wq p l e R s m args below meth c D G A H0 true n0 M_X1_changeRow x 0 0 4 [(0, (11, a0)), (1, (0, a1)), (2, (2, l2)), (3, (0, l3))] [] h) {r : (hH × Int × Int) ⊕ (Int × hH)} (hr : fX1_changeRow_s4 h0 a0 a1 (h, l2, l3) = some r) (hk : K r) : Wq p l e R s m args below meth c D G A H0 true n0 M_X1_changeRow x 0 0 4 [(0, (11, a0)), (1, (0, a1)), (2, (2, l2)), (3, (0, l3))] [] h := by
  unfold fX1_changeRow_s4 at hr
  refine r_iload_n dX1_changeRow_4 rfl 3 rfl (Or.inl rfl) ?_
  refine r_iconst dX1_changeRow_5 (by decide) ?_
  refine r_icmp_ge dX1_changeRow_6 (tgt := 41) (by decide) (fun hc => ?_) (fun hc => ?_)
  · have hr := ifn hr hc
    refine r_iload_n dX1_changeRow_41 rfl 2 rfl (Or.inr rfl) ?_
    obtain rfl := Option.some.inj hr
    exact r_ret dX1_changeRow_42 rfl (Or.inr ⟨rfl, rfl⟩) (k0 _ hk) ⟨rfl, rfl⟩
  · have hr := ifp hr hc
    refine r_aload_n dX1_changeRow_9 rfl 0 rfl (nl rfl) ?_
    refine r_iload_n dX1_changeRow_10 rfl 1 rfl (Or.inl rfl) ?_
    refine r_iload_n dX1_changeRow_11 rfl 3 rfl (Or.inl rfl) ?_
    obtain ⟨r12, hg12, hr⟩ := bnd hr
    refine k_V (ci := 1) (o := a0) (T := TX1) (as := [(0, a1), (0, l3)]) (rest := []) (X := (some (2, r12), h)) (oX1_becomesAnother hg12) gX1_becomesAnother rfl (by decide) rfl (wsl_36 _ (List.mem_of_getElem? (i := 10) rfl)) rfl dX1_changeRow_12 rfl ?_
    refine r_scast 0 (v := (2, r12)) (w := (0, r12)) rfl zc hTz (st' := [(0, r12)]) rfl ?_
    refine r_if_eq dX1_changeRow_15 (tgt := 35) (by decide) (fun hc => ?_) (fun hc => ?_)
    · have hr := ifp hr hc
      refine r_iinc (k := 3) (v := l3) dX1_changeRow_35 rfl (by decide) (lv' := [(3, (0, w32 (l3 + 1))), (0, (11, a0)), (1, (0, a1)), (2, (2, l2))]) rfl ?_
      refine r_goto dX1_changeRow_38 (tgt := 4) (by decide) ?_
      refine r_sub [1, 2, 3, 0] (lv' := [(0, (11, a0)), (1, (0, a1)), (2, (2, l2)), (3, (0, w32 (l3 + 1)))]) rfl ?_
      obtain rfl := Option.some.inj hr
      exact k1 _ _ _ hk
    · have hr := ifn hr hc
      refine r_aload_n dX1_changeRow_18 rfl 0 rfl (nl rfl) ?_
      refine r_get 1 2 (o := a0) (w := (13, h a0 2)) (T := TX1) (ref := "FollowingRefs$Judge") rfl (by decide) rfl (by decide) inlX1 (wsl_5 _ (List.mem_of_getElem? (i := 21) rfl)) rfl dX1_changeRow_19 rfl ?_
      refine r_iload_n dX1_changeRow_22 rfl 1 rfl (Or.inl rfl) ?_
      refine r_iload_n dX1_changeRow_23 rfl 3 rfl (Or.inl rfl) ?_
      refine r_aload_n dX1_changeRow_24 rfl 0 rfl (nl rfl) ?_
      refine r_iload_n dX1_changeRow_25 rfl 1 rfl (Or.inl rfl) ?_
      refine r_iload_n dX1_changeRow_26 rfl 3 rfl (Or.inl rfl) ?_
      obtain ⟨r27, hg27, hr⟩ := bnd hr
      refine k_V (ci := 1) (o := a0) (T := TX1) (as := [(0, a1), (0, l3)]) (rest := [(0, l3), (0, a1), (13, h a0 2)]) (X := (some (0, r27), h)) (oX1_wantedOf hg27) gX1_wantedOf rfl (by decide) rfl (wsl_36 _ (List.mem_of_getElem? (i := 14) rfl)) rfl dX1_changeRow_27 rfl ?_
      obtain ⟨h30, hg30, hr⟩ := bnd hr
      refine k_V (ci := 3) (o := h a0 2) (T := TX3) (as := [(0, a1), (0, l3), (0, r27)]) (rest := []) (X := (none, h30)) (oX3_setValue hg30) gX3_setValue rfl (by decide) rfl (wsl_37 _ (List.mem_of_getElem? (i := 4) rfl)) rfl dX1_changeRow_30 rfl ?_
      refine r_iconst dX1_changeRow_33 (by decide) ?_
      refine r_istore_n dX1_changeRow_34 rfl (Or.inl rfl) (by decide) (lv' := [(2, (0, 1)), (0, (11, a0)), (1, (0, a1)), (3, (0, l3))]) rfl ?_
      refine r_iinc (k := 3) (v := l3) dX1_changeRow_35 rfl (by decide) (lv' := [(3, (0, w32 (l3 + 1))), (2, (0, 1)), (0, (11, a0)), (1, (0, a1))]) rfl ?_
      refine r_goto dX1_changeRow_38 (tgt := 4) (by decide) ?_
      refine r_lcast 1 (v := (0, 1)) (w := (2, 1)) rfl cz (fun _ => Or.inr rfl) (lv' := [(3, (0, w32 (l3 + 1))), (2, (2, 1)), (0, (11, a0)), (1, (0, a1))]) rfl ?_
      refine r_sub [2, 3, 1, 0] (lv' := [(0, (11, a0)), (1, (0, a1)), (2, (2, 1)), (3, (0, w32 (l3 + 1)))]) rfl ?_
      obtain rfl := Option.some.inj hr
      exact k1 _ _ _ hk
set_option maxRecDepth 100000 in
set_option maxHeartbeats 4000000 in
theorem oX1_changeRow_b0 {a0 a1 : Int} {K : Int × hH → Prop} (k0 : ∀ r, K (r) → x = (some (2, r.1), r.2)) {r : Int × hH} (hr : fX1_changeRow h a0 a1 = some r) (hk : K r) : Wq p l e R s m args below meth c D G A H0 true n0 M_X1_changeRow x 0 0 0 [(0, (11, a0)), (1, (0, a1))] [] h := by
  unfold fX1_changeRow at hr
  refine r_iconst dX1_changeRow_0 (by decide) ?_
  refine r_istore_n dX1_changeRow_1 rfl (Or.inl rfl) (by decide) (lv' := [(2, (0, 0)), (0, (11, a0)), (1, (0, a1))]) rfl ?_
  refine r_iconst dX1_changeRow_2 (by decide) ?_
  refine r_istore_n dX1_changeRow_3 rfl (Or.inl rfl) (by decide) (lv' := [(3, (0, 0)), (2, (0, 0)), (0, (11, a0)), (1, (0, a1))]) rfl ?_
  refine r_lcast 1 (v := (0, 0)) (w := (2, 0)) rfl cz (fun _ => Or.inl rfl) (lv' := [(3, (0, 0)), (2, (2, 0)), (0, (11, a0)), (1, (0, a1))]) rfl ?_
  refine r_sub [2, 3, 1, 0] (lv' := [(0, (11, a0)), (1, (0, a1)), (2, (2, 0)), (3, (0, 0))]) rfl ?_
  exact lp_ok (w := fun (q : hH × Int × Int) => Wq p l e R s m args below meth c D G A H0 true n0 M_X1_changeRow x 0 0 4 [(0, (11, a0)), (1, (0, a1)), (2, (2, q.2.1)), (3, (0, q.2.2))] [] (q.1)) (K := K) (fun ⟨q0, q1, q2⟩ r h1 h2 => oX1_changeRow_s4 (K := Sum.elim (fun (q : hH × Int × Int) => Wq p l e R s m args below meth c D G A H0 true n0 M_X1_changeRow x 0 0 4 [(0, (11, a0)), (1, (0, a1)), (2, (2, q.2.1)), (3, (0, q.2.2))] [] (q.1)) (K)) (fun r z => k0 r z) (fun _ _ _ z => z) h1 h2) hr hk
end M_X1_changeRow
theorem oX1_changeRow {l : Launch} {D : va_G} {G : gG} {h : hH} {a0 a1 : Int} {r : Int × hH} (hr : fX1_changeRow h a0 a1 = some r) : Ctr l D G true yX1_changeRow M_X1_changeRow [(11, a0), (0, a1)] h (some (2, r.1), r.2) :=
  Ctr_of (by decide) rfl (fun z => by cases z) (nl rfl) (fun {p e R s m args below meth c A H0} => by
    exact oX1_changeRow_b0 (K := fun z9 => z9 = r) (fun r9 z => by rw [z]) hr rfl)
/-! X3_keepOnly -/
theorem dX3_keepOnly_0 : decode cX3_keepOnly 0 = .ok (.iconst 0, 1) := by decide +kernel
theorem dX3_keepOnly_1 : decode cX3_keepOnly 1 = .ok (.istore_n 2, 1) := by decide +kernel
theorem dX3_keepOnly_2 : decode cX3_keepOnly 2 = .ok (.iconst 0, 1) := by decide +kernel
theorem dX3_keepOnly_3 : decode cX3_keepOnly 3 = .ok (.istore_n 3, 1) := by decide +kernel
theorem dX3_keepOnly_4 : decode cX3_keepOnly 4 = .ok (.iload_n 3, 1) := by decide +kernel
theorem dX3_keepOnly_5 : decode cX3_keepOnly 5 = .ok (.aload_n 0, 1) := by decide +kernel
theorem dX3_keepOnly_6 : decode cX3_keepOnly 6 = .ok (.getfield 21, 3) := by decide +kernel
theorem dX3_keepOnly_9 : decode cX3_keepOnly 9 = .ok (.if_icmp .ge 82, 3) := by decide +kernel
theorem dX3_keepOnly_12 : decode cX3_keepOnly 12 = .ok (.aload_n 1, 1) := by decide +kernel
theorem dX3_keepOnly_13 : decode cX3_keepOnly 13 = .ok (.iload_n 3, 1) := by decide +kernel
theorem dX3_keepOnly_14 : decode cX3_keepOnly 14 = .ok (.invokestatic 46, 3) := by decide +kernel
theorem dX3_keepOnly_17 : decode cX3_keepOnly 17 = .ok (.iconst (-1), 1) := by decide +kernel
theorem dX3_keepOnly_18 : decode cX3_keepOnly 18 = .ok (.if_icmp .ne 67, 3) := by decide +kernel
theorem dX3_keepOnly_21 : decode cX3_keepOnly 21 = .ok (.aload_n 0, 1) := by decide +kernel
theorem dX3_keepOnly_22 : decode cX3_keepOnly 22 = .ok (.getfield 9, 3) := by decide +kernel
theorem dX3_keepOnly_25 : decode cX3_keepOnly 25 = .ok (.iload_n 2, 1) := by decide +kernel
theorem dX3_keepOnly_26 : decode cX3_keepOnly 26 = .ok (.aload_n 0, 1) := by decide +kernel
theorem dX3_keepOnly_27 : decode cX3_keepOnly 27 = .ok (.getfield 9, 3) := by decide +kernel
theorem dX3_keepOnly_30 : decode cX3_keepOnly 30 = .ok (.iload_n 3, 1) := by decide +kernel
theorem dX3_keepOnly_31 : decode cX3_keepOnly 31 = .ok (.invokestatic 46, 3) := by decide +kernel
theorem dX3_keepOnly_34 : decode cX3_keepOnly 34 = .ok (.invokestatic 32, 3) := by decide +kernel
theorem dX3_keepOnly_37 : decode cX3_keepOnly 37 = .ok (.aload_n 0, 1) := by decide +kernel
theorem dX3_keepOnly_38 : decode cX3_keepOnly 38 = .ok (.getfield 15, 3) := by decide +kernel
theorem dX3_keepOnly_41 : decode cX3_keepOnly 41 = .ok (.iload_n 2, 1) := by decide +kernel
theorem dX3_keepOnly_42 : decode cX3_keepOnly 42 = .ok (.aload_n 0, 1) := by decide +kernel
theorem dX3_keepOnly_43 : decode cX3_keepOnly 43 = .ok (.getfield 15, 3) := by decide +kernel
theorem dX3_keepOnly_46 : decode cX3_keepOnly 46 = .ok (.iload_n 3, 1) := by decide +kernel
theorem dX3_keepOnly_47 : decode cX3_keepOnly 47 = .ok (.invokestatic 46, 3) := by decide +kernel
theorem dX3_keepOnly_50 : decode cX3_keepOnly 50 = .ok (.invokestatic 32, 3) := by decide +kernel
theorem dX3_keepOnly_53 : decode cX3_keepOnly 53 = .ok (.iconst 0, 1) := by decide +kernel
theorem dX3_keepOnly_54 : decode cX3_keepOnly 54 = .ok (.istore 4, 2) := by decide +kernel
theorem dX3_keepOnly_56 : decode cX3_keepOnly 56 = .ok (.iload 4, 2) := by decide +kernel
theorem dX3_keepOnly_58 : decode cX3_keepOnly 58 = .ok (.iconst 4, 1) := by decide +kernel
theorem dX3_keepOnly_59 : decode cX3_keepOnly 59 = .ok (.if_icmp .ge 23, 3) := by decide +kernel
theorem dX3_keepOnly_62 : decode cX3_keepOnly 62 = .ok (.aload_n 0, 1) := by decide +kernel
theorem dX3_keepOnly_63 : decode cX3_keepOnly 63 = .ok (.iload_n 2, 1) := by decide +kernel
theorem dX3_keepOnly_64 : decode cX3_keepOnly 64 = .ok (.iload 4, 2) := by decide +kernel
theorem dX3_keepOnly_66 : decode cX3_keepOnly 66 = .ok (.aload_n 0, 1) := by decide +kernel
theorem dX3_keepOnly_67 : decode cX3_keepOnly 67 = .ok (.iload_n 3, 1) := by decide +kernel
theorem dX3_keepOnly_68 : decode cX3_keepOnly 68 = .ok (.iload 4, 2) := by decide +kernel
theorem dX3_keepOnly_70 : decode cX3_keepOnly 70 = .ok (.invokevirtual 50, 3) := by decide +kernel
theorem dX3_keepOnly_73 : decode cX3_keepOnly 73 = .ok (.invokevirtual 42, 3) := by decide +kernel
theorem dX3_keepOnly_76 : decode cX3_keepOnly 76 = .ok (.iinc 4 1, 3) := by decide +kernel
theorem dX3_keepOnly_79 : decode cX3_keepOnly 79 = .ok (.goto (-23), 3) := by decide +kernel
theorem dX3_keepOnly_82 : decode cX3_keepOnly 82 = .ok (.iinc 2 1, 3) := by decide +kernel
theorem dX3_keepOnly_85 : decode cX3_keepOnly 85 = .ok (.iinc 3 1, 3) := by decide +kernel
theorem dX3_keepOnly_88 : decode cX3_keepOnly 88 = .ok (.goto (-84), 3) := by decide +kernel
theorem dX3_keepOnly_91 : decode cX3_keepOnly 91 = .ok (.aload_n 0, 1) := by decide +kernel
theorem dX3_keepOnly_92 : decode cX3_keepOnly 92 = .ok (.iload_n 2, 1) := by decide +kernel
theorem dX3_keepOnly_93 : decode cX3_keepOnly 93 = .ok (.putfield 21, 3) := by decide +kernel
theorem dX3_keepOnly_96 : decode cX3_keepOnly 96 = .ok (.return_, 1) := by decide +kernel
abbrev M_X3_keepOnly : mM := (cX3_keepOnly, 5, RX3, none, false, 2, 45, 0, 0)
theorem gX3_keepOnly : cI yX3_keepOnly M_X3_keepOnly 1 := ⟨(wsl_37 _ (List.mem_of_getElem? (i := 6) rfl)), (wsl_37 _ (List.mem_of_getElem? (i := 7) rfl)), (wsl_4 _ (List.mem_of_getElem? (i := 5) rfl)), (wsl_37 _ (List.mem_of_getElem? (i := 8) rfl)), by decide +kernel⟩
noncomputable def fX3_keepOnly_s56 (h0 : hH) (a0 a1 l2 l3 : Int) : hH × Int → Option ((hH × Int) ⊕ ((hH × Int × Int) ⊕ (hH))) := fun (h, l4) =>
  if l4 < 4 then
    (fX3_value h a0 l3 l4).bind fun r70 =>
    (fX3_setValue h a0 l2 l4 r70).bind fun h73 =>
    some (.inl (h73, w32 (l4 + 1)))
  else
    some (.inr (.inl (h, w32 (l2 + 1), w32 (l3 + 1))))
noncomputable def fX3_keepOnly_s4 (h0 : hH) (a0 a1 : Int) : hH × Int × Int → Option ((hH × Int × Int) ⊕ (hH)) := fun (h, l2, l3) =>
  if l3 < h a0 0 then
    (fX11_at h a1 l3).bind fun r14 =>
    if r14 = -1 then
      (fX11_at h (h a0 2) l3).bind fun r31 =>
      (fX11_put h (h a0 2) l2 r31).bind fun h34 =>
      (fX11_at h34 (h34 a0 3) l3).bind fun r47 =>
      (fX11_put h34 (h34 a0 3) l2 r47).bind fun h50 =>
      lpO (fX3_keepOnly_s56 h50 a0 a1 l2 l3) (h50, 0)
    else
      some (.inl (h, l2, w32 (l3 + 1)))
  else
    (pput h a0 0 l2).bind fun h93 =>
    some (.inr (h93))
noncomputable def fX3_keepOnly (h : hH) (a0 a1 : Int) : Option (hH) :=
  lpO (fX3_keepOnly_s4 h a0 a1) (h, 0, 0)
section M_X3_keepOnly
variable {p : Program} {l : Launch} {e : Env} {R : Room} {s : State} {m : MethodId} {args : Array Value} {below : List Frame} {meth : Method} {c : Code} {D : va_G} {G : gG} {A : Nat → Prop} {H0 : Heap} {n0 : Int} {x : Option vV × hH} {h : hH}
set_option maxRecDepth 100000 in
set_option maxHeartbeats 4000000 in
theorem oX3_keepOnly_s56 {h0 : hH} {a0 a1 l2 l3 l4 : Int} {K : (hH × Int) ⊕ ((hH × Int × Int) ⊕ (hH)) → Prop} (k0 : ∀ r, K (.inr (.inr (r))) → x = (none, r)) (k1 : ∀ (h : hH) (l2 : Int) (l3 : Int), K (.inr (.inl (h, l2, l3))) → Wq p l e R s m args below meth c D G A H0 true n0 M_X3_keepOnly x 0 0 4 [(0, (13, a0)), (1, (50, a1)), (2, (0, l2)), (3, (0, l3))] [] h) (k2 : ∀ (h : hH) (l4 : Int), K (.inl (h, l4)) → Wq p l e R s m args below meth c D G A H0 true n0 M_X3_keepOnly x 0 0 56 [(0, (13, a0)), (1, (50, a1)), (2, (0, l2)), (3, (0, l3)), (4, (0, l4))] [] h) {r : (hH × Int) ⊕ ((hH × Int × Int) ⊕ (hH))} (hr : fX3_keepOnly_s56 h0 a0 a1 l2 l3 (h, l4) = some r) (hk : K r) : Wq p l e R s m args below meth c D G A H0 true n0 M_X3_keepOnly x 0 0 56 [(0, (13, a0)), (1, (50, a1)), (2, (0, l2)), (3, (0, l3)), (4, (0, l4))] [] h := by
  unfold fX3_keepOnly_s56 at hr
  refine r_iload dX3_keepOnly_56 4 rfl (Or.inl rfl) ?_
  refine r_iconst dX3_keepOnly_58 (by decide) ?_
  refine r_icmp_ge dX3_keepOnly_59 (tgt := 82) (by decide) (fun hc => ?_) (fun hc => ?_)
  · have hr := ifn hr hc
    refine r_iinc (k := 2) (v := l2) dX3_keepOnly_82 rfl (by decide) (lv' := [(2, (0, w32 (l2 + 1))), (0, (13, a0)), (1, (50, a1)), (3, (0, l3)), (4, (0, l4))]) rfl ?_
    refine r_iinc (k := 3) (v := l3) dX3_keepOnly_85 rfl (by decide) (lv' := [(3, (0, w32 (l3 + 1))), (2, (0, w32 (l2 + 1))), (0, (13, a0)), (1, (50, a1)), (4, (0, l4))]) rfl ?_
    refine r_goto dX3_keepOnly_88 (tgt := 4) (by decide) ?_
    refine r_sub [2, 3, 1, 0] (lv' := [(0, (13, a0)), (1, (50, a1)), (2, (0, w32 (l2 + 1))), (3, (0, w32 (l3 + 1)))]) rfl ?_
    obtain rfl := Option.some.inj hr
    exact k1 _ _ _ hk
  · have hr := ifp hr hc
    refine r_aload_n dX3_keepOnly_62 rfl 0 rfl (nl rfl) ?_
    refine r_iload_n dX3_keepOnly_63 rfl 2 rfl (Or.inl rfl) ?_
    refine r_iload dX3_keepOnly_64 4 rfl (Or.inl rfl) ?_
    refine r_aload_n dX3_keepOnly_66 rfl 0 rfl (nl rfl) ?_
    refine r_iload_n dX3_keepOnly_67 rfl 3 rfl (Or.inl rfl) ?_
    refine r_iload dX3_keepOnly_68 4 rfl (Or.inl rfl) ?_
    obtain ⟨r70, hg70, hr⟩ := bnd hr
    refine k_V (ci := 3) (o := a0) (T := TX3) (as := [(0, l3), (0, l4)]) (rest := [(0, l4), (0, l2), (13, a0)]) (X := (some (0, r70), h)) (oX3_value hg70) gX3_value rfl (by decide) rfl (wsl_34 _ (List.mem_of_getElem? (i := 10) rfl)) rfl dX3_keepOnly_70 rfl ?_
    obtain ⟨h73, hg73, hr⟩ := bnd hr
    refine k_V (ci := 3) (o := a0) (T := TX3) (as := [(0, l2), (0, l4), (0, r70)]) (rest := []) (X := (none, h73)) (oX3_setValue hg73) gX3_setValue rfl (by decide) rfl (wsl_33 _ (List.mem_of_getElem? (i := 12) rfl)) rfl dX3_keepOnly_73 rfl ?_
    refine r_iinc (k := 4) (v := l4) dX3_keepOnly_76 rfl (by decide) (lv' := [(4, (0, w32 (l4 + 1))), (0, (13, a0)), (1, (50, a1)), (2, (0, l2)), (3, (0, l3))]) rfl ?_
    refine r_goto dX3_keepOnly_79 (tgt := 56) (by decide) ?_
    refine r_sub [1, 2, 3, 4, 0] (lv' := [(0, (13, a0)), (1, (50, a1)), (2, (0, l2)), (3, (0, l3)), (4, (0, w32 (l4 + 1)))]) rfl ?_
    obtain rfl := Option.some.inj hr
    exact k2 _ _ hk
set_option maxRecDepth 100000 in
set_option maxHeartbeats 4000000 in
theorem oX3_keepOnly_s4 {h0 : hH} {a0 a1 l2 l3 : Int} {K : (hH × Int × Int) ⊕ (hH) → Prop} (k0 : ∀ r, K (.inr (r)) → x = (none, r)) (k1 : ∀ (h : hH) (l2 : Int) (l3 : Int), K (.inl (h, l2, l3)) → Wq p l e R s m args below meth c D G A H0 true n0 M_X3_keepOnly x 0 0 4 [(0, (13, a0)), (1, (50, a1)), (2, (0, l2)), (3, (0, l3))] [] h) {r : (hH × Int × Int) ⊕ (hH)} (hr : fX3_keepOnly_s4 h0 a0 a1 (h, l2, l3) = some r) (hk : K r) : Wq p l e R s m args below meth c D G A H0 true n0 M_X3_keepOnly x 0 0 4 [(0, (13, a0)), (1, (50, a1)), (2, (0, l2)), (3, (0, l3))] [] h := by
  unfold fX3_keepOnly_s4 at hr
  refine r_iload_n dX3_keepOnly_4 rfl 3 rfl (Or.inl rfl) ?_
  refine r_aload_n dX3_keepOnly_5 rfl 0 rfl (nl rfl) ?_
  refine r_get 3 0 (o := a0) (w := (0, h a0 0)) (T := TX3) (ref := "FollowingRefs$Rows") rfl (by decide) rfl (by decide) inlX3 (wsl_22 _ (List.mem_of_getElem? (i := 23) rfl)) rfl dX3_keepOnly_6 rfl ?_
  refine r_icmp_ge dX3_keepOnly_9 (tgt := 91) (by decide) (fun hc => ?_) (fun hc => ?_)
  · have hr := ifn hr hc
    refine r_aload_n dX3_keepOnly_91 rfl 0 rfl (nl rfl) ?_
    refine r_iload_n dX3_keepOnly_92 rfl 2 rfl (Or.inl rfl) ?_
    obtain ⟨h93, hg93, hr⟩ := bnd hr
    refine r_put' 3 0 (t := 0) (ref := "FollowingRefs$Rows") hg93 rfl tyX3 tyX3_ok nmX3 rfl (by decide) rfl (by decide) inlX3 (wsl_22 _ (List.mem_of_getElem? (i := 23) rfl)) rfl rfl (by decide +kernel) (by decide) rfl (Or.inl ⟨rfl, rfl⟩) dX3_keepOnly_93 ?_
    obtain rfl := Option.some.inj hr
    exact r_vret dX3_keepOnly_96 rfl (k0 _ hk) ⟨rfl, rfl⟩
  · have hr := ifp hr hc
    refine r_aload_n dX3_keepOnly_12 rfl 1 rfl (nl rfl) ?_
    refine r_iload_n dX3_keepOnly_13 rfl 3 rfl (Or.inl rfl) ?_
    obtain ⟨r14, hg14, hr⟩ := bnd hr
    refine k_SN (host := "FollowingRefs") (as := [(50, a1), (0, l3)]) (rest := []) (X := (some (0, r14), h)) (oX11_at hg14) gX11_at rfl (List.mem_of_getElem? (i := 20) rfl) rfl dX3_keepOnly_14 rfl ?_
    refine r_iconst dX3_keepOnly_17 (by decide) ?_
    refine r_icmp_ne dX3_keepOnly_18 (tgt := 85) (by decide) (fun hc => ?_) (fun hc => ?_)
    · have hr := ifn hr hc
      refine r_iinc (k := 3) (v := l3) dX3_keepOnly_85 rfl (by decide) (lv' := [(3, (0, w32 (l3 + 1))), (0, (13, a0)), (1, (50, a1)), (2, (0, l2))]) rfl ?_
      refine r_goto dX3_keepOnly_88 (tgt := 4) (by decide) ?_
      refine r_sub [1, 2, 3, 0] (lv' := [(0, (13, a0)), (1, (50, a1)), (2, (0, l2)), (3, (0, w32 (l3 + 1)))]) rfl ?_
      obtain rfl := Option.some.inj hr
      exact k1 _ _ _ hk
    · have hr := ifp hr hc
      refine r_aload_n dX3_keepOnly_21 rfl 0 rfl (nl rfl) ?_
      refine r_get 3 2 (o := a0) (w := (50, h a0 2)) (T := TX3) (ref := "FollowingRefs$Rows") rfl (by decide) rfl (by decide) inlX3 (wsl_4 _ (List.mem_of_getElem? (i := 11) rfl)) rfl dX3_keepOnly_22 rfl ?_
      refine r_iload_n dX3_keepOnly_25 rfl 2 rfl (Or.inl rfl) ?_
      refine r_aload_n dX3_keepOnly_26 rfl 0 rfl (nl rfl) ?_
      refine r_get 3 2 (o := a0) (w := (50, h a0 2)) (T := TX3) (ref := "FollowingRefs$Rows") rfl (by decide) rfl (by decide) inlX3 (wsl_4 _ (List.mem_of_getElem? (i := 11) rfl)) rfl dX3_keepOnly_27 rfl ?_
      refine r_iload_n dX3_keepOnly_30 rfl 3 rfl (Or.inl rfl) ?_
      obtain ⟨r31, hg31, hr⟩ := bnd hr
      refine k_SN (host := "FollowingRefs") (as := [(50, h a0 2), (0, l3)]) (rest := [(0, l2), (50, h a0 2)]) (X := (some (0, r31), h)) (oX11_at hg31) gX11_at rfl (List.mem_of_getElem? (i := 20) rfl) rfl dX3_keepOnly_31 rfl ?_
      obtain ⟨h34, hg34, hr⟩ := bnd hr
      refine k_SN (host := "FollowingRefs") (as := [(50, h a0 2), (0, l2), (0, r31)]) (rest := []) (X := (none, h34)) (oX11_put hg34) gX11_put rfl (List.mem_of_getElem? (i := 19) rfl) rfl dX3_keepOnly_34 rfl ?_
      refine r_aload_n dX3_keepOnly_37 rfl 0 rfl (nl rfl) ?_
      refine r_get 3 3 (o := a0) (w := (50, h34 a0 3)) (T := TX3) (ref := "FollowingRefs$Rows") rfl (by decide) rfl (by decide) inlX3 (wsl_4 _ (List.mem_of_getElem? (i := 12) rfl)) rfl dX3_keepOnly_38 rfl ?_
      refine r_iload_n dX3_keepOnly_41 rfl 2 rfl (Or.inl rfl) ?_
      refine r_aload_n dX3_keepOnly_42 rfl 0 rfl (nl rfl) ?_
      refine r_get 3 3 (o := a0) (w := (50, h34 a0 3)) (T := TX3) (ref := "FollowingRefs$Rows") rfl (by decide) rfl (by decide) inlX3 (wsl_4 _ (List.mem_of_getElem? (i := 12) rfl)) rfl dX3_keepOnly_43 rfl ?_
      refine r_iload_n dX3_keepOnly_46 rfl 3 rfl (Or.inl rfl) ?_
      obtain ⟨r47, hg47, hr⟩ := bnd hr
      refine k_SN (host := "FollowingRefs") (as := [(50, h34 a0 3), (0, l3)]) (rest := [(0, l2), (50, h34 a0 3)]) (X := (some (0, r47), h34)) (oX11_at hg47) gX11_at rfl (List.mem_of_getElem? (i := 20) rfl) rfl dX3_keepOnly_47 rfl ?_
      obtain ⟨h50, hg50, hr⟩ := bnd hr
      refine k_SN (host := "FollowingRefs") (as := [(50, h34 a0 3), (0, l2), (0, r47)]) (rest := []) (X := (none, h50)) (oX11_put hg50) gX11_put rfl (List.mem_of_getElem? (i := 19) rfl) rfl dX3_keepOnly_50 rfl ?_
      refine r_iconst dX3_keepOnly_53 (by decide) ?_
      refine r_istore dX3_keepOnly_54 (Or.inl rfl) (by decide) (lv' := [(4, (0, 0)), (0, (13, a0)), (1, (50, a1)), (2, (0, l2)), (3, (0, l3))]) rfl ?_
      refine r_sub [1, 2, 3, 4, 0] (lv' := [(0, (13, a0)), (1, (50, a1)), (2, (0, l2)), (3, (0, l3)), (4, (0, 0))]) rfl ?_
      exact lp_ok (w := fun (q : hH × Int) => Wq p l e R s m args below meth c D G A H0 true n0 M_X3_keepOnly x 0 0 56 [(0, (13, a0)), (1, (50, a1)), (2, (0, l2)), (3, (0, l3)), (4, (0, q.2))] [] (q.1)) (K := K) (fun ⟨q0, q1⟩ r h1 h2 => oX3_keepOnly_s56 (K := Sum.elim (fun (q : hH × Int) => Wq p l e R s m args below meth c D G A H0 true n0 M_X3_keepOnly x 0 0 56 [(0, (13, a0)), (1, (50, a1)), (2, (0, l2)), (3, (0, l3)), (4, (0, q.2))] [] (q.1)) (K)) (fun r z => k0 r z) (fun _ _ _ z => k1 _ _ _ z) (fun _ _ z => z) h1 h2) hr hk
set_option maxRecDepth 100000 in
set_option maxHeartbeats 4000000 in
theorem oX3_keepOnly_b0 {a0 a1 : Int} {K : hH → Prop} (k0 : ∀ r, K (r) → x = (none, r)) {r : hH} (hr : fX3_keepOnly h a0 a1 = some r) (hk : K r) : Wq p l e R s m args below meth c D G A H0 true n0 M_X3_keepOnly x 0 0 0 [(0, (13, a0)), (1, (50, a1))] [] h := by
  unfold fX3_keepOnly at hr
  refine r_iconst dX3_keepOnly_0 (by decide) ?_
  refine r_istore_n dX3_keepOnly_1 rfl (Or.inl rfl) (by decide) (lv' := [(2, (0, 0)), (0, (13, a0)), (1, (50, a1))]) rfl ?_
  refine r_iconst dX3_keepOnly_2 (by decide) ?_
  refine r_istore_n dX3_keepOnly_3 rfl (Or.inl rfl) (by decide) (lv' := [(3, (0, 0)), (2, (0, 0)), (0, (13, a0)), (1, (50, a1))]) rfl ?_
  refine r_sub [2, 3, 1, 0] (lv' := [(0, (13, a0)), (1, (50, a1)), (2, (0, 0)), (3, (0, 0))]) rfl ?_
  exact lp_ok (w := fun (q : hH × Int × Int) => Wq p l e R s m args below meth c D G A H0 true n0 M_X3_keepOnly x 0 0 4 [(0, (13, a0)), (1, (50, a1)), (2, (0, q.2.1)), (3, (0, q.2.2))] [] (q.1)) (K := K) (fun ⟨q0, q1, q2⟩ r h1 h2 => oX3_keepOnly_s4 (K := Sum.elim (fun (q : hH × Int × Int) => Wq p l e R s m args below meth c D G A H0 true n0 M_X3_keepOnly x 0 0 4 [(0, (13, a0)), (1, (50, a1)), (2, (0, q.2.1)), (3, (0, q.2.2))] [] (q.1)) (K)) (fun r z => k0 r z) (fun _ _ _ z => z) h1 h2) hr hk
end M_X3_keepOnly
theorem oX3_keepOnly {l : Launch} {D : va_G} {G : gG} {h : hH} {a0 a1 : Int} {r : hH} (hr : fX3_keepOnly h a0 a1 = some r) : Ctr l D G true yX3_keepOnly M_X3_keepOnly [(13, a0), (50, a1)] h (none, r) :=
  Ctr_of (by decide) rfl (fun z => by cases z) (nl rfl) (fun {p e R s m args below meth c A H0} => by
    exact oX3_keepOnly_b0 (K := fun z9 => z9 = r) (fun r9 z => by rw [z]) hr rfl)
