/-! THE CLASS'S cell, col, mean: they answer, or throw -/
section ZK
variable {p : Program} {l : Launch} {e : Env} {R : Room} {s : State} {m : MethodId} {args : Array Value} {below : List Frame} {meth : Method} {c : Code} {D : va_G} {G : gG} {A : Nat → Prop} {H0 : Heap} {sg : Bool} {n0 : Int} {M : mM} {Q : State → Prop} {cells slots : Nat} {pc : Nat} {lv : List (Nat × vV)} {st : List vV} {h : hH}
theorem kz_V {ci i n N : Nat} {y : MethodName} {My : mM} {o : Int} {as rest : List vV} {X : Option vV × hH} {T : u_T} (hM : Ctr l D G sg y My ((10 + ci, o) :: as) h X) (hI : cI y My n) (hn : n = as.length) (hci : ci < 13) (hcl : vwCl[ci]? = some (y.cls, T, N)) (w1 : Cond.methodLink M.2.2.1 i y ∈ wsL_law)
    (hR : (Nat.ble (My.2.2.2.2.2.1 + 1) M.2.2.2.2.2.1 && Nat.ble (8 + (My.2.1 + 11) + My.2.2.2.2.2.2.1) M.2.2.2.2.2.2.1 && Nat.ble (cells + My.2.2.2.2.2.2.2.1) M.2.2.2.2.2.2.2.1 && Nat.ble (slots + My.2.2.2.2.2.2.2.2) M.2.2.2.2.2.2.2.2 && Nat.ble (szA rest) 8) = true)
    (hd : decode M.1 pc = .ok (.invokevirtual i, 3)) (hrev : as.reverse ++ (10 + ci, o) :: rest = st)
    (kk : Wz p l e R s m args below meth c D G A H0 sg n0 M Q (cells + My.2.2.2.2.2.2.2.1) (slots + My.2.2.2.2.2.2.2.2) (pc + 3) lv (X.1.toList ++ rest) X.2) : Wz p l e R s m args below meth c D G A H0 sg n0 M Q cells slots pc lv st h := by
  subst hn
  simp only [Bool.and_eq_true, Nat.ble_eq] at hR
  exact z_callV (ci := ci) (i := i) (n := as.length) (N := N) (y := y) (My := My) (o := o) (as := as) (rest := rest) (X := X) (T := T) hM hci hcl w1 hI.1 hI.2.1 hI.2.2.1 hI.2.2.2.1 hI.2.2.2.2 ⟨hR.1.1.1.1, hR.1.1.1.2⟩ ⟨hR.1.1.2, hR.1.2⟩ hR.2 hd hrev kk
theorem kz_S {i n : Nat} {y : MethodName} {My : mM} {as rest : List vV} {X : Option vV × hH} (hM : Ctr l D G sg y My as h X) (hI : cS y My n) (hn : n = as.length) (w1 : Cond.methodLink M.2.2.1 i y ∈ wsL_law)
    (hR : (Nat.ble (My.2.2.2.2.2.1 + 1) M.2.2.2.2.2.1 && Nat.ble (8 + (My.2.1 + 11) + My.2.2.2.2.2.2.1) M.2.2.2.2.2.2.1 && Nat.ble (cells + My.2.2.2.2.2.2.2.1) M.2.2.2.2.2.2.2.1 && Nat.ble (slots + My.2.2.2.2.2.2.2.2) M.2.2.2.2.2.2.2.2 && Nat.ble (szA rest) 8) = true)
    (hd : decode M.1 pc = .ok (.invokestatic i, 3)) (hrev : as.reverse ++ rest = st)
    (kk : Wz p l e R s m args below meth c D G A H0 sg n0 M Q (cells + My.2.2.2.2.2.2.2.1) (slots + My.2.2.2.2.2.2.2.2) (pc + 3) lv (X.1.toList ++ rest) X.2) : Wz p l e R s m args below meth c D G A H0 sg n0 M Q cells slots pc lv st h := by
  subst hn
  simp only [Bool.and_eq_true, Nat.ble_eq] at hR
  exact z_callS (i := i) (y := y) (My := My) (as := as) (rest := rest) (X := X) hM w1 hI.1 hI.2.1 hI.2.2.1 hI.2.2.2 ⟨hR.1.1.1.1, hR.1.1.1.2⟩ ⟨hR.1.1.2, hR.1.2⟩ hR.2 hd hrev kk
theorem kz_SN {i n : Nat} {y : MethodName} {My : mM} {as rest : List vV} {X : Option vV × hH} {host : String} (hM : Ctr l D G sg y My as h X) (hI : cS y My n) (hn : n = as.length) (w1 : (M.2.2.1, i, y, host) ∈ nestL)
    (hR : (Nat.ble (My.2.2.2.2.2.1 + 1) M.2.2.2.2.2.1 && Nat.ble (8 + (My.2.1 + 11) + My.2.2.2.2.2.2.1) M.2.2.2.2.2.2.1 && Nat.ble (cells + My.2.2.2.2.2.2.2.1) M.2.2.2.2.2.2.2.1 && Nat.ble (slots + My.2.2.2.2.2.2.2.2) M.2.2.2.2.2.2.2.2 && Nat.ble (szA rest) 8) = true)
    (hd : decode M.1 pc = .ok (.invokestatic i, 3)) (hrev : as.reverse ++ rest = st)
    (kk : Wz p l e R s m args below meth c D G A H0 sg n0 M Q (cells + My.2.2.2.2.2.2.2.1) (slots + My.2.2.2.2.2.2.2.2) (pc + 3) lv (X.1.toList ++ rest) X.2) : Wz p l e R s m args below meth c D G A H0 sg n0 M Q cells slots pc lv st h := by
  subst hn
  simp only [Bool.and_eq_true, Nat.ble_eq] at hR
  exact z_callSN (i := i) (y := y) (My := My) (as := as) (rest := rest) (X := X) (host := host) hM w1 hI.1 hI.2.1 hI.2.2.1 hI.2.2.2 ⟨hR.1.1.1.1, hR.1.1.1.2⟩ ⟨hR.1.1.2, hR.1.2⟩ hR.2 hd hrev kk
end ZK
theorem xW1 : Cond.classLink RX11 247 noEl ∈ wsL_law := wsl_55 _ (List.mem_of_getElem? (i := 1) rfl)
theorem xW2 : Cond.initialized noEl ∈ wsL_law := wsl_55 _ (List.mem_of_getElem? (i := 2) rfl)
theorem xWg : (∀ w ∈ (vx_at0 RX11 249 noEl noSup).filter goodWord, w ∈ wsL_law) ∧ ∀ w ∈ Cond.classLink RX11 247 noEl :: Cond.initialized noEl :: vx_at0 RX11 249 noEl noSup, vx_ot w = true := ⟨fun w h => List.mem_append_right _ h, by decide +kernel⟩
/-! X11_cell -/
theorem dX11_cell_0 : decode cX11_cell 0 = .ok (.aload_n 0, 1) := by decide +kernel
theorem dX11_cell_1 : decode cX11_cell 1 = .ok (.getfield 26, 3) := by decide +kernel
theorem dX11_cell_4 : decode cX11_cell 4 = .ok (.getfield 152, 3) := by decide +kernel
theorem dX11_cell_7 : decode cX11_cell 7 = .ok (.iload_n 1, 1) := by decide +kernel
theorem dX11_cell_8 : decode cX11_cell 8 = .ok (.invokevirtual 238, 3) := by decide +kernel
theorem dX11_cell_11 : decode cX11_cell 11 = .ok (.istore_n 3, 1) := by decide +kernel
theorem dX11_cell_12 : decode cX11_cell 12 = .ok (.iload_n 3, 1) := by decide +kernel
theorem dX11_cell_13 : decode cX11_cell 13 = .ok (.iconst (-1), 1) := by decide +kernel
theorem dX11_cell_14 : decode cX11_cell 14 = .ok (.if_icmp .eq 29, 3) := by decide +kernel
theorem dX11_cell_17 : decode cX11_cell 17 = .ok (.iload_n 2, 1) := by decide +kernel
theorem dX11_cell_18 : decode cX11_cell 18 = .ok (.ifCond .lt 25, 3) := by decide +kernel
theorem dX11_cell_21 : decode cX11_cell 21 = .ok (.iload_n 2, 1) := by decide +kernel
theorem dX11_cell_22 : decode cX11_cell 22 = .ok (.aload_n 0, 1) := by decide +kernel
theorem dX11_cell_23 : decode cX11_cell 23 = .ok (.getfield 19, 3) := by decide +kernel
theorem dX11_cell_26 : decode cX11_cell 26 = .ok (.aload_n 0, 1) := by decide +kernel
theorem dX11_cell_27 : decode cX11_cell 27 = .ok (.getfield 26, 3) := by decide +kernel
theorem dX11_cell_30 : decode cX11_cell 30 = .ok (.getfield 152, 3) := by decide +kernel
theorem dX11_cell_33 : decode cX11_cell 33 = .ok (.iload_n 3, 1) := by decide +kernel
theorem dX11_cell_34 : decode cX11_cell 34 = .ok (.invokevirtual 241, 3) := by decide +kernel
theorem dX11_cell_37 : decode cX11_cell 37 = .ok (.invokevirtual 244, 3) := by decide +kernel
theorem dX11_cell_40 : decode cX11_cell 40 = .ok (.if_icmp .lt 11, 3) := by decide +kernel
theorem dX11_cell_43 : decode cX11_cell 43 = .ok (.new 247, 3) := by decide +kernel
theorem dX11_cell_46 : decode cX11_cell 46 = .ok (.dup, 1) := by decide +kernel
theorem dX11_cell_47 : decode cX11_cell 47 = .ok (.invokespecial 249, 3) := by decide +kernel
theorem dX11_cell_50 : decode cX11_cell 50 = .ok (.athrow, 1) := by decide +kernel
theorem dX11_cell_51 : decode cX11_cell 51 = .ok (.aload_n 0, 1) := by decide +kernel
theorem dX11_cell_52 : decode cX11_cell 52 = .ok (.getfield 26, 3) := by decide +kernel
theorem dX11_cell_55 : decode cX11_cell 55 = .ok (.getfield 152, 3) := by decide +kernel
theorem dX11_cell_58 : decode cX11_cell 58 = .ok (.iload_n 3, 1) := by decide +kernel
theorem dX11_cell_59 : decode cX11_cell 59 = .ok (.iload_n 2, 1) := by decide +kernel
theorem dX11_cell_60 : decode cX11_cell 60 = .ok (.invokevirtual 250, 3) := by decide +kernel
theorem dX11_cell_63 : decode cX11_cell 63 = .ok (.ireturn, 1) := by decide +kernel
abbrev M_X11_cell : mM := (cX11_cell, 4, RX11, some .int, false, 6, 90, 1, 6)
theorem gX11_cell : cI yX11_cell M_X11_cell 2 := ⟨(wsl_54 _ (List.mem_of_getElem? (i := 22) rfl)), (wsl_54 _ (List.mem_of_getElem? (i := 23) rfl)), (wsl_1 _ (List.mem_of_getElem? (i := 2) rfl)), (wsl_55 _ (List.mem_of_getElem? (i := 0) rfl)), by decide +kernel⟩
noncomputable def fX11_cell_b43 (h : hH) : Option (Option Int) :=
  some none
noncomputable def fX11_cell (h : hH) (a0 a1 a2 : Int) : Option (Option Int) :=
  (fX3_slotOf h (h (h a0 2) 0) a1).bind fun r8 =>
  if r8 = -1 then
    fX11_cell_b43 h
  else
    if a2 < 0 then
      fX11_cell_b43 h
    else
      (fX3_tableAt h (h (h a0 2) 0) r8).bind fun r34 =>
      (fX4_width h (h a0 1) r34).bind fun r37 =>
      if a2 < r37 then
        (fX3_value h (h (h a0 2) 0) r8 a2).bind fun r60 =>
        some (some r60)
      else
        fX11_cell_b43 h
section M_X11_cell
variable {p : Program} {l : Launch} {e : Env} {R : Room} {s : State} {m : MethodId} {args : Array Value} {below : List Frame} {meth : Method} {c : Code} {D : va_G} {G : gG} {A : Nat → Prop} {H0 : Heap} {n0 : Int} {o : Option Int} {h : hH}
set_option maxRecDepth 100000 in
set_option maxHeartbeats 4000000 in
theorem oX11_cell_b43 (htr : l.stackTraces = false) (hcx : ∀ z ∈ c.exceptionTable.toList, False) (hzs : zsF A s s.heap) (hxs : xsOk s) {K : Option Int → Prop} (k0 : ∀ r, K (r) → o = r) {r : Option Int} (hr : fX11_cell_b43 h  = some r) (hk : K r) : Wz p l e R s m args below meth c D G A H0 true n0 M_X11_cell (vx_MQ below (qXo D G A true n0 o h) (XCo D G A o h) args s 1 6 A) 0 0 43 [] [] h := by
  unfold fX11_cell_b43 at hr
  obtain rfl := Option.some.inj hr
  exact z_throw (k0 _ hk) htr hcx hzs hxs rfl xW1 xW2 xWg dX11_cell_43 dX11_cell_46 dX11_cell_47 dX11_cell_50 ⟨by decide, by decide, by decide, by decide⟩
set_option maxRecDepth 100000 in
set_option maxHeartbeats 4000000 in
theorem oX11_cell_b0 (htr : l.stackTraces = false) (hcx : ∀ z ∈ c.exceptionTable.toList, False) (hzs : zsF A s s.heap) (hxs : xsOk s) {a0 a1 a2 : Int} {K : Option Int → Prop} (k0 : ∀ r, K (r) → o = r) {r : Option Int} (hr : fX11_cell h a0 a1 a2 = some r) (hk : K r) : Wz p l e R s m args below meth c D G A H0 true n0 M_X11_cell (vx_MQ below (qXo D G A true n0 o h) (XCo D G A o h) args s 1 6 A) 0 0 0 [(0, (21, a0)), (1, (0, a1)), (2, (0, a2))] [] h := by
  unfold fX11_cell at hr
  refine z_aload_n dX11_cell_0 rfl 0 rfl (nl rfl) ?_
  refine z_get 11 2 (o := a0) (w := (18, h a0 2)) (T := TX11) (ref := "FollowingRefs") rfl (by decide) rfl (by decide) inlX11 (wsl_2 _ (List.mem_of_getElem? (i := 0) rfl)) rfl dX11_cell_1 rfl ?_
  refine z_get 8 0 (o := h a0 2) (w := (13, h (h a0 2) 0)) (T := TX8) (ref := "FollowingRefs$State") rfl (by decide) rfl (by decide) inlX8 (wsl_29 _ (List.mem_of_getElem? (i := 9) rfl)) rfl dX11_cell_4 rfl ?_
  refine z_iload_n dX11_cell_7 rfl 1 rfl (Or.inl rfl) ?_
  obtain ⟨r8, hg8, hr⟩ := bnd hr
  refine kz_V (ci := 3) (o := h (h a0 2) 0) (T := TX3) (as := [(0, a1)]) (rest := []) (X := (some (0, r8), h)) (oX3_slotOf hg8) gX3_slotOf rfl (by decide) rfl (wsl_54 _ (List.mem_of_getElem? (i := 3) rfl)) rfl dX11_cell_8 rfl ?_
  refine z_istore_n dX11_cell_11 rfl (Or.inl rfl) (by decide) (lv' := [(3, (0, r8)), (0, (21, a0)), (1, (0, a1)), (2, (0, a2))]) rfl ?_
  refine z_iload_n dX11_cell_12 rfl 0 rfl (Or.inl rfl) ?_
  refine z_iconst dX11_cell_13 (by decide) ?_
  refine z_icmp_eq dX11_cell_14 (tgt := 43) (by decide) (fun hc => ?_) (fun hc => ?_)
  · have hr := ifp hr hc
    refine z_sub [] (lv' := []) rfl ?_
    exact oX11_cell_b43 htr hcx hzs hxs (K := K) (fun r z => k0 r z) hr hk
  · have hr := ifn hr hc
    refine z_iload_n dX11_cell_17 rfl 3 rfl (Or.inl rfl) ?_
    refine z_if_lt dX11_cell_18 (tgt := 43) (by decide) (fun hc => ?_) (fun hc => ?_)
    · have hr := ifp hr hc
      refine z_sub [] (lv' := []) rfl ?_
      exact oX11_cell_b43 htr hcx hzs hxs (K := K) (fun r z => k0 r z) hr hk
    · have hr := ifn hr hc
      refine z_iload_n dX11_cell_21 rfl 3 rfl (Or.inl rfl) ?_
      refine z_aload_n dX11_cell_22 rfl 1 rfl (nl rfl) ?_
      refine z_get 11 1 (o := a0) (w := (14, h a0 1)) (T := TX11) (ref := "FollowingRefs") rfl (by decide) rfl (by decide) inlX11 (wsl_1 _ (List.mem_of_getElem? (i := 20) rfl)) rfl dX11_cell_23 rfl ?_
      refine z_aload_n dX11_cell_26 rfl 1 rfl (nl rfl) ?_
      refine z_get 11 2 (o := a0) (w := (18, h a0 2)) (T := TX11) (ref := "FollowingRefs") rfl (by decide) rfl (by decide) inlX11 (wsl_2 _ (List.mem_of_getElem? (i := 0) rfl)) rfl dX11_cell_27 rfl ?_
      refine z_get 8 0 (o := h a0 2) (w := (13, h (h a0 2) 0)) (T := TX8) (ref := "FollowingRefs$State") rfl (by decide) rfl (by decide) inlX8 (wsl_29 _ (List.mem_of_getElem? (i := 9) rfl)) rfl dX11_cell_30 rfl ?_
      refine z_iload_n dX11_cell_33 rfl 0 rfl (Or.inl rfl) ?_
      obtain ⟨r34, hg34, hr⟩ := bnd hr
      refine kz_V (ci := 3) (o := h (h a0 2) 0) (T := TX3) (as := [(0, r8)]) (rest := [(14, h a0 1), (0, a2)]) (X := (some (0, r34), h)) (oX3_tableAt hg34) gX3_tableAt rfl (by decide) rfl (wsl_54 _ (List.mem_of_getElem? (i := 7) rfl)) rfl dX11_cell_34 rfl ?_
      obtain ⟨r37, hg37, hr⟩ := bnd hr
      refine kz_V (ci := 4) (o := h a0 1) (T := TX4) (as := [(0, r34)]) (rest := [(0, a2)]) (X := (some (0, r37), h)) (oX4_width hg37) gX4_width rfl (by decide) rfl (wsl_55 _ (List.mem_of_getElem? (i := 3) rfl)) rfl dX11_cell_37 rfl ?_
      refine z_icmp_lt dX11_cell_40 (tgt := 51) (by decide) (fun hc => ?_) (fun hc => ?_)
      · have hr := ifp hr hc
        refine z_aload_n dX11_cell_51 rfl 1 rfl (nl rfl) ?_
        refine z_get 11 2 (o := a0) (w := (18, h a0 2)) (T := TX11) (ref := "FollowingRefs") rfl (by decide) rfl (by decide) inlX11 (wsl_2 _ (List.mem_of_getElem? (i := 0) rfl)) rfl dX11_cell_52 rfl ?_
        refine z_get 8 0 (o := h a0 2) (w := (13, h (h a0 2) 0)) (T := TX8) (ref := "FollowingRefs$State") rfl (by decide) rfl (by decide) inlX8 (wsl_29 _ (List.mem_of_getElem? (i := 9) rfl)) rfl dX11_cell_55 rfl ?_
        refine z_iload_n dX11_cell_58 rfl 0 rfl (Or.inl rfl) ?_
        refine z_iload_n dX11_cell_59 rfl 3 rfl (Or.inl rfl) ?_
        obtain ⟨r60, hg60, hr⟩ := bnd hr
        refine kz_V (ci := 3) (o := h (h a0 2) 0) (T := TX3) (as := [(0, r8), (0, a2)]) (rest := []) (X := (some (0, r60), h)) (oX3_value hg60) gX3_value rfl (by decide) rfl (wsl_55 _ (List.mem_of_getElem? (i := 4) rfl)) rfl dX11_cell_60 rfl ?_
        obtain rfl := Option.some.inj hr
        exact z_retX (k0 _ hk) dX11_cell_63 rfl ⟨by decide, by decide⟩
      · have hr := ifn hr hc
        refine z_sub [] (lv' := []) rfl ?_
        exact oX11_cell_b43 htr hcx hzs hxs (K := K) (fun r z => k0 r z) hr hk
end M_X11_cell
theorem oX11_cell {l : Launch} (htr : l.stackTraces = false) {D : va_G} {G : gG} {h : hH} {a0 a1 a2 : Int} {r : Option Int} (hr : fX11_cell h a0 a1 a2 = some r) : CtX l D G true yX11_cell M_X11_cell [(21, a0), (0, a1), (0, a2)] h r :=
  CtX_of (by decide) rfl (fun z => by cases z) (nl rfl) (fun {p e R s m args below meth c A H0} hcx hzs hxs => by
    exact oX11_cell_b0 htr hcx hzs hxs (K := fun z9 => z9 = r) (fun r9 z => by rw [z]) hr rfl)
/-! X11_col -/
theorem dX11_col_0 : decode cX11_col 0 = .ok (.aload_n 0, 1) := by decide +kernel
theorem dX11_col_1 : decode cX11_col 1 = .ok (.getfield 19, 3) := by decide +kernel
theorem dX11_col_4 : decode cX11_col 4 = .ok (.iload_n 1, 1) := by decide +kernel
theorem dX11_col_5 : decode cX11_col 5 = .ok (.iload_n 2, 1) := by decide +kernel
theorem dX11_col_6 : decode cX11_col 6 = .ok (.invokevirtual 276, 3) := by decide +kernel
theorem dX11_col_9 : decode cX11_col 9 = .ok (.ifCond .eq 12, 3) := by decide +kernel
theorem dX11_col_12 : decode cX11_col 12 = .ok (.iload_n 3, 1) := by decide +kernel
theorem dX11_col_13 : decode cX11_col 13 = .ok (.ifCond .lt 8, 3) := by decide +kernel
theorem dX11_col_16 : decode cX11_col 16 = .ok (.iload_n 3, 1) := by decide +kernel
theorem dX11_col_17 : decode cX11_col 17 = .ok (.iconst 3, 1) := by decide +kernel
theorem dX11_col_18 : decode cX11_col 18 = .ok (.if_icmp .le 11, 3) := by decide +kernel
theorem dX11_col_21 : decode cX11_col 21 = .ok (.new 247, 3) := by decide +kernel
theorem dX11_col_24 : decode cX11_col 24 = .ok (.dup, 1) := by decide +kernel
theorem dX11_col_25 : decode cX11_col 25 = .ok (.invokespecial 249, 3) := by decide +kernel
theorem dX11_col_28 : decode cX11_col 28 = .ok (.athrow, 1) := by decide +kernel
theorem dX11_col_29 : decode cX11_col 29 = .ok (.iload_n 3, 1) := by decide +kernel
theorem dX11_col_30 : decode cX11_col 30 = .ok (.tableswitch 64 0 2 #[26, 36, 54], 26) := by decide +kernel
theorem dX11_col_56 : decode cX11_col 56 = .ok (.aload_n 0, 1) := by decide +kernel
theorem dX11_col_57 : decode cX11_col 57 = .ok (.getfield 19, 3) := by decide +kernel
theorem dX11_col_60 : decode cX11_col 60 = .ok (.iload_n 1, 1) := by decide +kernel
theorem dX11_col_61 : decode cX11_col 61 = .ok (.iload_n 2, 1) := by decide +kernel
theorem dX11_col_62 : decode cX11_col 62 = .ok (.invokevirtual 280, 3) := by decide +kernel
theorem dX11_col_65 : decode cX11_col 65 = .ok (.ireturn, 1) := by decide +kernel
theorem dX11_col_66 : decode cX11_col 66 = .ok (.aload_n 0, 1) := by decide +kernel
theorem dX11_col_67 : decode cX11_col 67 = .ok (.getfield 19, 3) := by decide +kernel
theorem dX11_col_70 : decode cX11_col 70 = .ok (.iload_n 1, 1) := by decide +kernel
theorem dX11_col_71 : decode cX11_col 71 = .ok (.iload_n 2, 1) := by decide +kernel
theorem dX11_col_72 : decode cX11_col 72 = .ok (.invokevirtual 283, 3) := by decide +kernel
theorem dX11_col_75 : decode cX11_col 75 = .ok (.ifCond .eq 7, 3) := by decide +kernel
theorem dX11_col_78 : decode cX11_col 78 = .ok (.iconst 1, 1) := by decide +kernel
theorem dX11_col_79 : decode cX11_col 79 = .ok (.goto 4, 3) := by decide +kernel
theorem dX11_col_82 : decode cX11_col 82 = .ok (.iconst 0, 1) := by decide +kernel
theorem dX11_col_83 : decode cX11_col 83 = .ok (.ireturn, 1) := by decide +kernel
theorem dX11_col_84 : decode cX11_col 84 = .ok (.aload_n 0, 1) := by decide +kernel
theorem dX11_col_85 : decode cX11_col 85 = .ok (.getfield 19, 3) := by decide +kernel
theorem dX11_col_88 : decode cX11_col 88 = .ok (.iload_n 1, 1) := by decide +kernel
theorem dX11_col_89 : decode cX11_col 89 = .ok (.iload_n 2, 1) := by decide +kernel
theorem dX11_col_90 : decode cX11_col 90 = .ok (.invokevirtual 286, 3) := by decide +kernel
theorem dX11_col_93 : decode cX11_col 93 = .ok (.ireturn, 1) := by decide +kernel
theorem dX11_col_94 : decode cX11_col 94 = .ok (.aload_n 0, 1) := by decide +kernel
theorem dX11_col_95 : decode cX11_col 95 = .ok (.getfield 19, 3) := by decide +kernel
theorem dX11_col_98 : decode cX11_col 98 = .ok (.iload_n 1, 1) := by decide +kernel
theorem dX11_col_99 : decode cX11_col 99 = .ok (.iload_n 2, 1) := by decide +kernel
theorem dX11_col_100 : decode cX11_col 100 = .ok (.invokevirtual 289, 3) := by decide +kernel
theorem dX11_col_103 : decode cX11_col 103 = .ok (.ireturn, 1) := by decide +kernel
abbrev M_X11_col : mM := (cX11_col, 4, RX11, some .int, false, 6, 90, 1, 6)
theorem gX11_col : cI yX11_col M_X11_col 3 := ⟨(wsl_58 _ (List.mem_of_getElem? (i := 10) rfl)), (wsl_58 _ (List.mem_of_getElem? (i := 11) rfl)), (wsl_1 _ (List.mem_of_getElem? (i := 2) rfl)), (wsl_58 _ (List.mem_of_getElem? (i := 12) rfl)), by decide +kernel⟩
noncomputable def fX11_col_b21 (h : hH) : Option (Option Int) :=
  some none
noncomputable def fX11_col (h : hH) (a0 a1 a2 a3 : Int) : Option (Option Int) :=
  (fX4_has h (h a0 1) a1 a2).bind fun r6 =>
  if r6 = 0 then
    fX11_col_b21 h
  else
    if a3 < 0 then
      fX11_col_b21 h
    else
      if 3 < a3 then
        fX11_col_b21 h
      else
        if a3 = 0 then
          (fX4_defaultOf h (h a0 1) a1 a2).bind fun r62 =>
          some (some r62)
        else
          if a3 = 1 then
            (fX4_needed h (h a0 1) a1 a2).bind fun r72 =>
            if r72 = 0 then
              some (some 0)
            else
              some (some 1)
          else
            if a3 = 2 then
              (fX4_keysWith h (h a0 1) a1 a2).bind fun r90 =>
              some (some r90)
            else
              (fX4_refsWith h (h a0 1) a1 a2).bind fun r100 =>
              some (some r100)
section M_X11_col
variable {p : Program} {l : Launch} {e : Env} {R : Room} {s : State} {m : MethodId} {args : Array Value} {below : List Frame} {meth : Method} {c : Code} {D : va_G} {G : gG} {A : Nat → Prop} {H0 : Heap} {n0 : Int} {o : Option Int} {h : hH}
set_option maxRecDepth 100000 in
set_option maxHeartbeats 4000000 in
theorem oX11_col_b21 (htr : l.stackTraces = false) (hcx : ∀ z ∈ c.exceptionTable.toList, False) (hzs : zsF A s s.heap) (hxs : xsOk s) {K : Option Int → Prop} (k0 : ∀ r, K (r) → o = r) {r : Option Int} (hr : fX11_col_b21 h  = some r) (hk : K r) : Wz p l e R s m args below meth c D G A H0 true n0 M_X11_col (vx_MQ below (qXo D G A true n0 o h) (XCo D G A o h) args s 1 6 A) 0 0 21 [] [] h := by
  unfold fX11_col_b21 at hr
  obtain rfl := Option.some.inj hr
  exact z_throw (k0 _ hk) htr hcx hzs hxs rfl xW1 xW2 xWg dX11_col_21 dX11_col_24 dX11_col_25 dX11_col_28 ⟨by decide, by decide, by decide, by decide⟩
set_option maxRecDepth 100000 in
set_option maxHeartbeats 4000000 in
theorem oX11_col_b0 (htr : l.stackTraces = false) (hcx : ∀ z ∈ c.exceptionTable.toList, False) (hzs : zsF A s s.heap) (hxs : xsOk s) {a0 a1 a2 a3 : Int} {K : Option Int → Prop} (k0 : ∀ r, K (r) → o = r) {r : Option Int} (hr : fX11_col h a0 a1 a2 a3 = some r) (hk : K r) : Wz p l e R s m args below meth c D G A H0 true n0 M_X11_col (vx_MQ below (qXo D G A true n0 o h) (XCo D G A o h) args s 1 6 A) 0 0 0 [(0, (21, a0)), (1, (0, a1)), (2, (0, a2)), (3, (0, a3))] [] h := by
  unfold fX11_col at hr
  refine z_aload_n dX11_col_0 rfl 0 rfl (nl rfl) ?_
  refine z_get 11 1 (o := a0) (w := (14, h a0 1)) (T := TX11) (ref := "FollowingRefs") rfl (by decide) rfl (by decide) inlX11 (wsl_1 _ (List.mem_of_getElem? (i := 20) rfl)) rfl dX11_col_1 rfl ?_
  refine z_iload_n dX11_col_4 rfl 1 rfl (Or.inl rfl) ?_
  refine z_iload_n dX11_col_5 rfl 2 rfl (Or.inl rfl) ?_
  obtain ⟨r6, hg6, hr⟩ := bnd hr
  refine kz_V (ci := 4) (o := h a0 1) (T := TX4) (as := [(0, a1), (0, a2)]) (rest := []) (X := (some (2, r6), h)) (oX4_has hg6) gX4_has rfl (by decide) rfl (wsl_58 _ (List.mem_of_getElem? (i := 13) rfl)) rfl dX11_col_6 rfl ?_
  refine z_scast 0 (v := (2, r6)) (w := (0, r6)) rfl zc hTz (st' := [(0, r6)]) rfl ?_
  refine z_if_eq dX11_col_9 (tgt := 21) (by decide) (fun hc => ?_) (fun hc => ?_)
  · have hr := ifp hr hc
    refine z_sub [] (lv' := []) rfl ?_
    exact oX11_col_b21 htr hcx hzs hxs (K := K) (fun r z => k0 r z) hr hk
  · have hr := ifn hr hc
    refine z_iload_n dX11_col_12 rfl 3 rfl (Or.inl rfl) ?_
    refine z_if_lt dX11_col_13 (tgt := 21) (by decide) (fun hc => ?_) (fun hc => ?_)
    · have hr := ifp hr hc
      refine z_sub [] (lv' := []) rfl ?_
      exact oX11_col_b21 htr hcx hzs hxs (K := K) (fun r z => k0 r z) hr hk
    · have hr := ifn hr hc
      refine z_iload_n dX11_col_16 rfl 3 rfl (Or.inl rfl) ?_
      refine z_iconst dX11_col_17 (by decide) ?_
      refine z_icmp_le dX11_col_18 (tgt := 29) (by decide) (fun hc => ?_) (fun hc => ?_)
      · have hr := ifn hr hc
        refine z_iload_n dX11_col_29 rfl 3 rfl (Or.inl rfl) ?_
        by_cases hs0 : a3 = 0
        · have hr := ifp hr hs0
          refine z_tableIn dX11_col_30 (by omega) (by omega) (off := 26) (by rw [hs0]; rfl) (tgt := 56) (by decide) ?_
          refine z_aload_n dX11_col_56 rfl 0 rfl (nl rfl) ?_
          refine z_get 11 1 (o := a0) (w := (14, h a0 1)) (T := TX11) (ref := "FollowingRefs") rfl (by decide) rfl (by decide) inlX11 (wsl_1 _ (List.mem_of_getElem? (i := 20) rfl)) rfl dX11_col_57 rfl ?_
          refine z_iload_n dX11_col_60 rfl 1 rfl (Or.inl rfl) ?_
          refine z_iload_n dX11_col_61 rfl 2 rfl (Or.inl rfl) ?_
          obtain ⟨r62, hg62, hr⟩ := bnd hr
          refine kz_V (ci := 4) (o := h a0 1) (T := TX4) (as := [(0, a1), (0, a2)]) (rest := []) (X := (some (0, r62), h)) (oX4_defaultOf hg62) gX4_defaultOf rfl (by decide) rfl (wsl_58 _ (List.mem_of_getElem? (i := 14) rfl)) rfl dX11_col_62 rfl ?_
          obtain rfl := Option.some.inj hr
          exact z_retX (k0 _ hk) dX11_col_65 rfl ⟨by decide, by decide⟩
        have hr := ifn hr hs0
        by_cases hs1 : a3 = 1
        · have hr := ifp hr hs1
          refine z_tableIn dX11_col_30 (by omega) (by omega) (off := 36) (by rw [hs1]; rfl) (tgt := 66) (by decide) ?_
          refine z_aload_n dX11_col_66 rfl 0 rfl (nl rfl) ?_
          refine z_get 11 1 (o := a0) (w := (14, h a0 1)) (T := TX11) (ref := "FollowingRefs") rfl (by decide) rfl (by decide) inlX11 (wsl_1 _ (List.mem_of_getElem? (i := 20) rfl)) rfl dX11_col_67 rfl ?_
          refine z_iload_n dX11_col_70 rfl 1 rfl (Or.inl rfl) ?_
          refine z_iload_n dX11_col_71 rfl 2 rfl (Or.inl rfl) ?_
          obtain ⟨r72, hg72, hr⟩ := bnd hr
          refine kz_V (ci := 4) (o := h a0 1) (T := TX4) (as := [(0, a1), (0, a2)]) (rest := []) (X := (some (2, r72), h)) (oX4_needed hg72) gX4_needed rfl (by decide) rfl (wsl_58 _ (List.mem_of_getElem? (i := 15) rfl)) rfl dX11_col_72 rfl ?_
          refine z_scast 0 (v := (2, r72)) (w := (0, r72)) rfl zc hTz (st' := [(0, r72)]) rfl ?_
          refine z_if_eq dX11_col_75 (tgt := 82) (by decide) (fun hc => ?_) (fun hc => ?_)
          · have hr := ifp hr hc
            refine z_iconst dX11_col_82 (by decide) ?_
            obtain rfl := Option.some.inj hr
            exact z_retX (k0 _ hk) dX11_col_83 rfl ⟨by decide, by decide⟩
          · have hr := ifn hr hc
            refine z_iconst dX11_col_78 (by decide) ?_
            refine z_goto dX11_col_79 (tgt := 83) (by decide) ?_
            obtain rfl := Option.some.inj hr
            exact z_retX (k0 _ hk) dX11_col_83 rfl ⟨by decide, by decide⟩
        have hr := ifn hr hs1
        by_cases hs2 : a3 = 2
        · have hr := ifp hr hs2
          refine z_tableIn dX11_col_30 (by omega) (by omega) (off := 54) (by rw [hs2]; rfl) (tgt := 84) (by decide) ?_
          refine z_aload_n dX11_col_84 rfl 0 rfl (nl rfl) ?_
          refine z_get 11 1 (o := a0) (w := (14, h a0 1)) (T := TX11) (ref := "FollowingRefs") rfl (by decide) rfl (by decide) inlX11 (wsl_1 _ (List.mem_of_getElem? (i := 20) rfl)) rfl dX11_col_85 rfl ?_
          refine z_iload_n dX11_col_88 rfl 1 rfl (Or.inl rfl) ?_
          refine z_iload_n dX11_col_89 rfl 2 rfl (Or.inl rfl) ?_
          obtain ⟨r90, hg90, hr⟩ := bnd hr
          refine kz_V (ci := 4) (o := h a0 1) (T := TX4) (as := [(0, a1), (0, a2)]) (rest := []) (X := (some (0, r90), h)) (oX4_keysWith hg90) gX4_keysWith rfl (by decide) rfl (wsl_58 _ (List.mem_of_getElem? (i := 16) rfl)) rfl dX11_col_90 rfl ?_
          obtain rfl := Option.some.inj hr
          exact z_retX (k0 _ hk) dX11_col_93 rfl ⟨by decide, by decide⟩
        have hr := ifn hr hs2
        refine z_tableOut dX11_col_30 (by omega) (tgt := 94) (by decide) ?_
        refine z_aload_n dX11_col_94 rfl 0 rfl (nl rfl) ?_
        refine z_get 11 1 (o := a0) (w := (14, h a0 1)) (T := TX11) (ref := "FollowingRefs") rfl (by decide) rfl (by decide) inlX11 (wsl_1 _ (List.mem_of_getElem? (i := 20) rfl)) rfl dX11_col_95 rfl ?_
        refine z_iload_n dX11_col_98 rfl 1 rfl (Or.inl rfl) ?_
        refine z_iload_n dX11_col_99 rfl 2 rfl (Or.inl rfl) ?_
        obtain ⟨r100, hg100, hr⟩ := bnd hr
        refine kz_V (ci := 4) (o := h a0 1) (T := TX4) (as := [(0, a1), (0, a2)]) (rest := []) (X := (some (0, r100), h)) (oX4_refsWith hg100) gX4_refsWith rfl (by decide) rfl (wsl_58 _ (List.mem_of_getElem? (i := 17) rfl)) rfl dX11_col_100 rfl ?_
        obtain rfl := Option.some.inj hr
        exact z_retX (k0 _ hk) dX11_col_103 rfl ⟨by decide, by decide⟩
      · have hr := ifp hr hc
        refine z_sub [] (lv' := []) rfl ?_
        exact oX11_col_b21 htr hcx hzs hxs (K := K) (fun r z => k0 r z) hr hk
end M_X11_col
theorem oX11_col {l : Launch} (htr : l.stackTraces = false) {D : va_G} {G : gG} {h : hH} {a0 a1 a2 a3 : Int} {r : Option Int} (hr : fX11_col h a0 a1 a2 a3 = some r) : CtX l D G true yX11_col M_X11_col [(21, a0), (0, a1), (0, a2), (0, a3)] h r :=
  CtX_of (by decide) rfl (fun z => by cases z) (nl rfl) (fun {p e R s m args below meth c A H0} hcx hzs hxs => by
    exact oX11_col_b0 htr hcx hzs hxs (K := fun z9 => z9 = r) (fun r9 z => by rw [z]) hr rfl)
/-! X11_mean -/
theorem dX11_mean_0 : decode cX11_mean 0 = .ok (.aload_n 0, 1) := by decide +kernel
theorem dX11_mean_1 : decode cX11_mean 1 = .ok (.getfield 19, 3) := by decide +kernel
theorem dX11_mean_4 : decode cX11_mean 4 = .ok (.iload_n 1, 1) := by decide +kernel
theorem dX11_mean_5 : decode cX11_mean 5 = .ok (.iload_n 2, 1) := by decide +kernel
theorem dX11_mean_6 : decode cX11_mean 6 = .ok (.invokevirtual 276, 3) := by decide +kernel
theorem dX11_mean_9 : decode cX11_mean 9 = .ok (.ifCond .eq 18, 3) := by decide +kernel
theorem dX11_mean_12 : decode cX11_mean 12 = .ok (.aload_n 0, 1) := by decide +kernel
theorem dX11_mean_13 : decode cX11_mean 13 = .ok (.getfield 26, 3) := by decide +kernel
theorem dX11_mean_16 : decode cX11_mean 16 = .ok (.getfield 152, 3) := by decide +kernel
theorem dX11_mean_19 : decode cX11_mean 19 = .ok (.iload_n 1, 1) := by decide +kernel
theorem dX11_mean_20 : decode cX11_mean 20 = .ok (.iload_n 2, 1) := by decide +kernel
theorem dX11_mean_21 : decode cX11_mean 21 = .ok (.invokevirtual 305, 3) := by decide +kernel
theorem dX11_mean_24 : decode cX11_mean 24 = .ok (.goto 4, 3) := by decide +kernel
theorem dX11_mean_27 : decode cX11_mean 27 = .ok (.iconst 0, 1) := by decide +kernel
theorem dX11_mean_28 : decode cX11_mean 28 = .ok (.istore 4, 2) := by decide +kernel
theorem dX11_mean_30 : decode cX11_mean 30 = .ok (.iload 4, 2) := by decide +kernel
theorem dX11_mean_32 : decode cX11_mean 32 = .ok (.ifCond .eq 12, 3) := by decide +kernel
theorem dX11_mean_35 : decode cX11_mean 35 = .ok (.iload_n 3, 1) := by decide +kernel
theorem dX11_mean_36 : decode cX11_mean 36 = .ok (.ifCond .lt 8, 3) := by decide +kernel
theorem dX11_mean_39 : decode cX11_mean 39 = .ok (.iload_n 3, 1) := by decide +kernel
theorem dX11_mean_40 : decode cX11_mean 40 = .ok (.iconst 1, 1) := by decide +kernel
theorem dX11_mean_41 : decode cX11_mean 41 = .ok (.if_icmp .le 11, 3) := by decide +kernel
theorem dX11_mean_44 : decode cX11_mean 44 = .ok (.new 247, 3) := by decide +kernel
theorem dX11_mean_47 : decode cX11_mean 47 = .ok (.dup, 1) := by decide +kernel
theorem dX11_mean_48 : decode cX11_mean 48 = .ok (.invokespecial 249, 3) := by decide +kernel
theorem dX11_mean_51 : decode cX11_mean 51 = .ok (.athrow, 1) := by decide +kernel
theorem dX11_mean_52 : decode cX11_mean 52 = .ok (.aload_n 0, 1) := by decide +kernel
theorem dX11_mean_53 : decode cX11_mean 53 = .ok (.getfield 26, 3) := by decide +kernel
theorem dX11_mean_56 : decode cX11_mean 56 = .ok (.getfield 152, 3) := by decide +kernel
theorem dX11_mean_59 : decode cX11_mean 59 = .ok (.iload_n 1, 1) := by decide +kernel
theorem dX11_mean_60 : decode cX11_mean 60 = .ok (.iload_n 2, 1) := by decide +kernel
theorem dX11_mean_61 : decode cX11_mean 61 = .ok (.invokevirtual 308, 3) := by decide +kernel
theorem dX11_mean_64 : decode cX11_mean 64 = .ok (.istore 5, 2) := by decide +kernel
theorem dX11_mean_66 : decode cX11_mean 66 = .ok (.iload 5, 2) := by decide +kernel
theorem dX11_mean_68 : decode cX11_mean 68 = .ok (.iload 4, 2) := by decide +kernel
theorem dX11_mean_70 : decode cX11_mean 70 = .ok (.invokestatic 311, 3) := by decide +kernel
theorem dX11_mean_73 : decode cX11_mean 73 = .ok (.istore 6, 2) := by decide +kernel
theorem dX11_mean_75 : decode cX11_mean 75 = .ok (.iload_n 3, 1) := by decide +kernel
theorem dX11_mean_76 : decode cX11_mean 76 = .ok (.ifCond .ne 8, 3) := by decide +kernel
theorem dX11_mean_79 : decode cX11_mean 79 = .ok (.iload 5, 2) := by decide +kernel
theorem dX11_mean_81 : decode cX11_mean 81 = .ok (.goto 5, 3) := by decide +kernel
theorem dX11_mean_84 : decode cX11_mean 84 = .ok (.iload 4, 2) := by decide +kernel
theorem dX11_mean_86 : decode cX11_mean 86 = .ok (.istore 7, 2) := by decide +kernel
theorem dX11_mean_88 : decode cX11_mean 88 = .ok (.iload 6, 2) := by decide +kernel
theorem dX11_mean_90 : decode cX11_mean 90 = .ok (.iconst 1, 1) := by decide +kernel
theorem dX11_mean_91 : decode cX11_mean 91 = .ok (.if_icmp .ge 8, 3) := by decide +kernel
theorem dX11_mean_94 : decode cX11_mean 94 = .ok (.iload 7, 2) := by decide +kernel
theorem dX11_mean_96 : decode cX11_mean 96 = .ok (.goto 8, 3) := by decide +kernel
theorem dX11_mean_99 : decode cX11_mean 99 = .ok (.iload 7, 2) := by decide +kernel
theorem dX11_mean_101 : decode cX11_mean 101 = .ok (.iload 6, 2) := by decide +kernel
theorem dX11_mean_103 : decode cX11_mean 103 = .ok (.idiv, 1) := by decide +kernel
theorem dX11_mean_104 : decode cX11_mean 104 = .ok (.ireturn, 1) := by decide +kernel
abbrev M_X11_mean : mM := (cX11_mean, 8, RX11, some .int, false, 6, 90, 1, 6)
theorem gX11_mean : cI yX11_mean M_X11_mean 3 := ⟨(wsl_60 _ (List.mem_of_getElem? (i := 20) rfl)), (wsl_60 _ (List.mem_of_getElem? (i := 21) rfl)), (wsl_1 _ (List.mem_of_getElem? (i := 2) rfl)), (wsl_60 _ (List.mem_of_getElem? (i := 22) rfl)), by decide +kernel⟩
noncomputable def fX11_mean_b86 (h : hH) (l6 s0 : Int) : Option (Option Int) :=
  if l6 < 1 then
    some (some s0)
  else
    (gdz l6).bind fun _ =>
    some (some (idvD s0 l6))
noncomputable def fX11_mean_b44 (h : hH) : Option (Option Int) :=
  some none
noncomputable def fX11_mean_b28 (h : hH) (a0 a1 a2 a3 s0 : Int) : Option (Option Int) :=
  if s0 = 0 then
    fX11_mean_b44 h
  else
    if a3 < 0 then
      fX11_mean_b44 h
    else
      if 1 < a3 then
        fX11_mean_b44 h
      else
        (fX3_sumIn h (h (h a0 2) 0) a1 a2).bind fun r61 =>
        (fX11_commonDivisor h r61 s0).bind fun r70 =>
        if a3 = 0 then
          fX11_mean_b86 h r70 r61
        else
          fX11_mean_b86 h r70 s0
noncomputable def fX11_mean (h : hH) (a0 a1 a2 a3 : Int) : Option (Option Int) :=
  (fX4_has h (h a0 1) a1 a2).bind fun r6 =>
  if r6 = 0 then
    fX11_mean_b28 h a0 a1 a2 a3 0
  else
    (fX3_countIn h (h (h a0 2) 0) a1 a2).bind fun r21 =>
    fX11_mean_b28 h a0 a1 a2 a3 r21
section M_X11_mean
variable {p : Program} {l : Launch} {e : Env} {R : Room} {s : State} {m : MethodId} {args : Array Value} {below : List Frame} {meth : Method} {c : Code} {D : va_G} {G : gG} {A : Nat → Prop} {H0 : Heap} {n0 : Int} {o : Option Int} {h : hH}
set_option maxRecDepth 100000 in
set_option maxHeartbeats 4000000 in
theorem oX11_mean_b86 (htr : l.stackTraces = false) (hcx : ∀ z ∈ c.exceptionTable.toList, False) (hzs : zsF A s s.heap) (hxs : xsOk s) {l6 s0 : Int} {K : Option Int → Prop} (k0 : ∀ r, K (r) → o = r) {r : Option Int} (hr : fX11_mean_b86 h l6 s0 = some r) (hk : K r) : Wz p l e R s m args below meth c D G A H0 true n0 M_X11_mean (vx_MQ below (qXo D G A true n0 o h) (XCo D G A o h) args s 1 6 A) 0 0 86 [(6, (0, l6))] [(0, s0)] h := by
  unfold fX11_mean_b86 at hr
  refine z_istore dX11_mean_86 (Or.inl rfl) (by decide) (lv' := [(7, (0, s0)), (6, (0, l6))]) rfl ?_
  refine z_iload dX11_mean_88 1 rfl (Or.inl rfl) ?_
  refine z_iconst dX11_mean_90 (by decide) ?_
  refine z_icmp_ge dX11_mean_91 (tgt := 99) (by decide) (fun hc => ?_) (fun hc => ?_)
  · have hr := ifn hr hc
    refine z_iload dX11_mean_99 0 rfl (Or.inl rfl) ?_
    refine z_iload dX11_mean_101 1 rfl (Or.inl rfl) ?_
    obtain ⟨z103, hg103, hr⟩ := bnd hr
    refine z_idiv' dX11_mean_103 hg103 ?_
    obtain rfl := Option.some.inj hr
    exact z_retX (k0 _ hk) dX11_mean_104 rfl ⟨by decide, by decide⟩
  · have hr := ifp hr hc
    refine z_iload dX11_mean_94 0 rfl (Or.inl rfl) ?_
    refine z_goto dX11_mean_96 (tgt := 104) (by decide) ?_
    obtain rfl := Option.some.inj hr
    exact z_retX (k0 _ hk) dX11_mean_104 rfl ⟨by decide, by decide⟩
set_option maxRecDepth 100000 in
set_option maxHeartbeats 4000000 in
theorem oX11_mean_b44 (htr : l.stackTraces = false) (hcx : ∀ z ∈ c.exceptionTable.toList, False) (hzs : zsF A s s.heap) (hxs : xsOk s) {K : Option Int → Prop} (k0 : ∀ r, K (r) → o = r) {r : Option Int} (hr : fX11_mean_b44 h  = some r) (hk : K r) : Wz p l e R s m args below meth c D G A H0 true n0 M_X11_mean (vx_MQ below (qXo D G A true n0 o h) (XCo D G A o h) args s 1 6 A) 0 0 44 [] [] h := by
  unfold fX11_mean_b44 at hr
  obtain rfl := Option.some.inj hr
  exact z_throw (k0 _ hk) htr hcx hzs hxs rfl xW1 xW2 xWg dX11_mean_44 dX11_mean_47 dX11_mean_48 dX11_mean_51 ⟨by decide, by decide, by decide, by decide⟩
set_option maxRecDepth 100000 in
set_option maxHeartbeats 4000000 in
theorem oX11_mean_b28 (htr : l.stackTraces = false) (hcx : ∀ z ∈ c.exceptionTable.toList, False) (hzs : zsF A s s.heap) (hxs : xsOk s) {a0 a1 a2 a3 s0 : Int} {K : Option Int → Prop} (k0 : ∀ r, K (r) → o = r) {r : Option Int} (hr : fX11_mean_b28 h a0 a1 a2 a3 s0 = some r) (hk : K r) : Wz p l e R s m args below meth c D G A H0 true n0 M_X11_mean (vx_MQ below (qXo D G A true n0 o h) (XCo D G A o h) args s 1 6 A) 0 0 28 [(0, (21, a0)), (1, (0, a1)), (2, (0, a2)), (3, (0, a3))] [(0, s0)] h := by
  unfold fX11_mean_b28 at hr
  refine z_istore dX11_mean_28 (Or.inl rfl) (by decide) (lv' := [(4, (0, s0)), (0, (21, a0)), (1, (0, a1)), (2, (0, a2)), (3, (0, a3))]) rfl ?_
  refine z_iload dX11_mean_30 0 rfl (Or.inl rfl) ?_
  refine z_if_eq dX11_mean_32 (tgt := 44) (by decide) (fun hc => ?_) (fun hc => ?_)
  · have hr := ifp hr hc
    refine z_sub [] (lv' := []) rfl ?_
    exact oX11_mean_b44 htr hcx hzs hxs (K := K) (fun r z => k0 r z) hr hk
  · have hr := ifn hr hc
    refine z_iload_n dX11_mean_35 rfl 4 rfl (Or.inl rfl) ?_
    refine z_if_lt dX11_mean_36 (tgt := 44) (by decide) (fun hc => ?_) (fun hc => ?_)
    · have hr := ifp hr hc
      refine z_sub [] (lv' := []) rfl ?_
      exact oX11_mean_b44 htr hcx hzs hxs (K := K) (fun r z => k0 r z) hr hk
    · have hr := ifn hr hc
      refine z_iload_n dX11_mean_39 rfl 4 rfl (Or.inl rfl) ?_
      refine z_iconst dX11_mean_40 (by decide) ?_
      refine z_icmp_le dX11_mean_41 (tgt := 52) (by decide) (fun hc => ?_) (fun hc => ?_)
      · have hr := ifn hr hc
        refine z_aload_n dX11_mean_52 rfl 1 rfl (nl rfl) ?_
        refine z_get 11 2 (o := a0) (w := (18, h a0 2)) (T := TX11) (ref := "FollowingRefs") rfl (by decide) rfl (by decide) inlX11 (wsl_2 _ (List.mem_of_getElem? (i := 0) rfl)) rfl dX11_mean_53 rfl ?_
        refine z_get 8 0 (o := h a0 2) (w := (13, h (h a0 2) 0)) (T := TX8) (ref := "FollowingRefs$State") rfl (by decide) rfl (by decide) inlX8 (wsl_29 _ (List.mem_of_getElem? (i := 9) rfl)) rfl dX11_mean_56 rfl ?_
        refine z_iload_n dX11_mean_59 rfl 2 rfl (Or.inl rfl) ?_
        refine z_iload_n dX11_mean_60 rfl 3 rfl (Or.inl rfl) ?_
        obtain ⟨r61, hg61, hr⟩ := bnd hr
        refine kz_V (ci := 3) (o := h (h a0 2) 0) (T := TX3) (as := [(0, a1), (0, a2)]) (rest := []) (X := (some (0, r61), h)) (oX3_sumIn hg61) gX3_sumIn rfl (by decide) rfl (wsl_61 _ (List.mem_of_getElem? (i := 3) rfl)) rfl dX11_mean_61 rfl ?_
        refine z_istore dX11_mean_64 (Or.inl rfl) (by decide) (lv' := [(5, (0, r61)), (4, (0, s0)), (0, (21, a0)), (1, (0, a1)), (2, (0, a2)), (3, (0, a3))]) rfl ?_
        refine z_iload dX11_mean_66 0 rfl (Or.inl rfl) ?_
        refine z_iload dX11_mean_68 1 rfl (Or.inl rfl) ?_
        obtain ⟨r70, hg70, hr⟩ := bnd hr
        refine kz_S (as := [(0, r61), (0, s0)]) (rest := []) (X := (some (0, r70), h)) (oX11_commonDivisor hg70) gX11_commonDivisor rfl (wsl_61 _ (List.mem_of_getElem? (i := 7) rfl)) rfl dX11_mean_70 rfl ?_
        refine z_istore dX11_mean_73 (Or.inl rfl) (by decide) (lv' := [(6, (0, r70)), (5, (0, r61)), (4, (0, s0)), (0, (21, a0)), (1, (0, a1)), (2, (0, a2)), (3, (0, a3))]) rfl ?_
        refine z_iload_n dX11_mean_75 rfl 6 rfl (Or.inl rfl) ?_
        refine z_if_ne dX11_mean_76 (tgt := 84) (by decide) (fun hc => ?_) (fun hc => ?_)
        · have hr := ifn hr hc
          refine z_iload dX11_mean_84 2 rfl (Or.inl rfl) ?_
          refine z_sub [0] (lv' := [(6, (0, r70))]) rfl ?_
          exact oX11_mean_b86 htr hcx hzs hxs (K := K) (fun r z => k0 r z) hr hk
        · have hr := ifp hr hc
          refine z_iload dX11_mean_79 1 rfl (Or.inl rfl) ?_
          refine z_goto dX11_mean_81 (tgt := 86) (by decide) ?_
          refine z_sub [0] (lv' := [(6, (0, r70))]) rfl ?_
          exact oX11_mean_b86 htr hcx hzs hxs (K := K) (fun r z => k0 r z) hr hk
      · have hr := ifp hr hc
        refine z_sub [] (lv' := []) rfl ?_
        exact oX11_mean_b44 htr hcx hzs hxs (K := K) (fun r z => k0 r z) hr hk
set_option maxRecDepth 100000 in
set_option maxHeartbeats 4000000 in
theorem oX11_mean_b0 (htr : l.stackTraces = false) (hcx : ∀ z ∈ c.exceptionTable.toList, False) (hzs : zsF A s s.heap) (hxs : xsOk s) {a0 a1 a2 a3 : Int} {K : Option Int → Prop} (k0 : ∀ r, K (r) → o = r) {r : Option Int} (hr : fX11_mean h a0 a1 a2 a3 = some r) (hk : K r) : Wz p l e R s m args below meth c D G A H0 true n0 M_X11_mean (vx_MQ below (qXo D G A true n0 o h) (XCo D G A o h) args s 1 6 A) 0 0 0 [(0, (21, a0)), (1, (0, a1)), (2, (0, a2)), (3, (0, a3))] [] h := by
  unfold fX11_mean at hr
  refine z_aload_n dX11_mean_0 rfl 0 rfl (nl rfl) ?_
  refine z_get 11 1 (o := a0) (w := (14, h a0 1)) (T := TX11) (ref := "FollowingRefs") rfl (by decide) rfl (by decide) inlX11 (wsl_1 _ (List.mem_of_getElem? (i := 20) rfl)) rfl dX11_mean_1 rfl ?_
  refine z_iload_n dX11_mean_4 rfl 1 rfl (Or.inl rfl) ?_
  refine z_iload_n dX11_mean_5 rfl 2 rfl (Or.inl rfl) ?_
  obtain ⟨r6, hg6, hr⟩ := bnd hr
  refine kz_V (ci := 4) (o := h a0 1) (T := TX4) (as := [(0, a1), (0, a2)]) (rest := []) (X := (some (2, r6), h)) (oX4_has hg6) gX4_has rfl (by decide) rfl (wsl_58 _ (List.mem_of_getElem? (i := 13) rfl)) rfl dX11_mean_6 rfl ?_
  refine z_scast 0 (v := (2, r6)) (w := (0, r6)) rfl zc hTz (st' := [(0, r6)]) rfl ?_
  refine z_if_eq dX11_mean_9 (tgt := 27) (by decide) (fun hc => ?_) (fun hc => ?_)
  · have hr := ifp hr hc
    refine z_iconst dX11_mean_27 (by decide) ?_
    exact oX11_mean_b28 htr hcx hzs hxs (K := K) (fun r z => k0 r z) hr hk
  · have hr := ifn hr hc
    refine z_aload_n dX11_mean_12 rfl 0 rfl (nl rfl) ?_
    refine z_get 11 2 (o := a0) (w := (18, h a0 2)) (T := TX11) (ref := "FollowingRefs") rfl (by decide) rfl (by decide) inlX11 (wsl_2 _ (List.mem_of_getElem? (i := 0) rfl)) rfl dX11_mean_13 rfl ?_
    refine z_get 8 0 (o := h a0 2) (w := (13, h (h a0 2) 0)) (T := TX8) (ref := "FollowingRefs$State") rfl (by decide) rfl (by decide) inlX8 (wsl_29 _ (List.mem_of_getElem? (i := 9) rfl)) rfl dX11_mean_16 rfl ?_
    refine z_iload_n dX11_mean_19 rfl 1 rfl (Or.inl rfl) ?_
    refine z_iload_n dX11_mean_20 rfl 2 rfl (Or.inl rfl) ?_
    obtain ⟨r21, hg21, hr⟩ := bnd hr
    refine kz_V (ci := 3) (o := h (h a0 2) 0) (T := TX3) (as := [(0, a1), (0, a2)]) (rest := []) (X := (some (0, r21), h)) (oX3_countIn hg21) gX3_countIn rfl (by decide) rfl (wsl_60 _ (List.mem_of_getElem? (i := 23) rfl)) rfl dX11_mean_21 rfl ?_
    refine z_goto dX11_mean_24 (tgt := 28) (by decide) ?_
    exact oX11_mean_b28 htr hcx hzs hxs (K := K) (fun r z => k0 r z) hr hk
end M_X11_mean
theorem oX11_mean {l : Launch} (htr : l.stackTraces = false) {D : va_G} {G : gG} {h : hH} {a0 a1 a2 a3 : Int} {r : Option Int} (hr : fX11_mean h a0 a1 a2 a3 = some r) : CtX l D G true yX11_mean M_X11_mean [(21, a0), (0, a1), (0, a2), (0, a3)] h r :=
  CtX_of (by decide) rfl (fun z => by cases z) (nl rfl) (fun {p e R s m args below meth c A H0} hcx hzs hxs => by
    exact oX11_mean_b0 htr hcx hzs hxs (K := fun z9 => z9 = r) (fun r9 z => by rw [z]) hr rfl)
