def M_X7_readOne (d : Nat) : mM := (cX7_readOne, 5, RX7, some .boolean, false, 20 + 3 * d, 1000 + 100 * d, 0, 0)
def M_X7_readAll (d : Nat) : mM := (cX7_readAll, 4, RX7, some .boolean, false, 21 + 3 * d, 1030 + 100 * d, 0, 0)
def M_X7_readCond (d : Nat) : mM := (cX7_readCond, 4, RX7, some .boolean, false, 22 + 3 * d, 1060 + 100 * d, 0, 0)
theorem gX7_readOne (d : Nat) : cI yX7_readOne (M_X7_readOne d) 1 := ⟨(wsl_67 _ (List.mem_of_getElem? (i := 15) rfl)), (wsl_67 _ (List.mem_of_getElem? (i := 16) rfl)), (wsl_2 _ (List.mem_of_getElem? (i := 11) rfl)), (wsl_67 _ (List.mem_of_getElem? (i := 17) rfl)), by decide +kernel⟩
theorem gX7_readAll (d : Nat) : cI yX7_readAll (M_X7_readAll d) 1 := ⟨(wsl_67 _ (List.mem_of_getElem? (i := 6) rfl)), (wsl_67 _ (List.mem_of_getElem? (i := 7) rfl)), (wsl_2 _ (List.mem_of_getElem? (i := 11) rfl)), (wsl_67 _ (List.mem_of_getElem? (i := 13) rfl)), by decide +kernel⟩
theorem gX7_readCond (d : Nat) : cI yX7_readCond (M_X7_readCond d) 1 := ⟨(wsl_67 _ (List.mem_of_getElem? (i := 2) rfl)), (wsl_67 _ (List.mem_of_getElem? (i := 3) rfl)), (wsl_2 _ (List.mem_of_getElem? (i := 11) rfl)), (wsl_67 _ (List.mem_of_getElem? (i := 4) rfl)), by decide +kernel⟩
/-! X7_readAll -/
theorem dX7_readAll_0 : decode cX7_readAll 0 = .ok (.aload_n 0, 1) := by decide +kernel
theorem dX7_readAll_1 : decode cX7_readAll 1 = .ok (.iload_n 1, 1) := by decide +kernel
theorem dX7_readAll_2 : decode cX7_readAll 2 = .ok (.invokevirtual 60, 3) := by decide +kernel
theorem dX7_readAll_5 : decode cX7_readAll 5 = .ok (.istore_n 2, 1) := by decide +kernel
theorem dX7_readAll_6 : decode cX7_readAll 6 = .ok (.iconst 0, 1) := by decide +kernel
theorem dX7_readAll_7 : decode cX7_readAll 7 = .ok (.istore_n 3, 1) := by decide +kernel
theorem dX7_readAll_8 : decode cX7_readAll 8 = .ok (.iload_n 3, 1) := by decide +kernel
theorem dX7_readAll_9 : decode cX7_readAll 9 = .ok (.sipush 200, 3) := by decide +kernel
theorem dX7_readAll_12 : decode cX7_readAll 12 = .ok (.if_icmp .ge 44, 3) := by decide +kernel
theorem dX7_readAll_15 : decode cX7_readAll 15 = .ok (.iload_n 2, 1) := by decide +kernel
theorem dX7_readAll_16 : decode cX7_readAll 16 = .ok (.ifCond .eq 40, 3) := by decide +kernel
theorem dX7_readAll_19 : decode cX7_readAll 19 = .ok (.aload_n 0, 1) := by decide +kernel
theorem dX7_readAll_20 : decode cX7_readAll 20 = .ok (.getfield 18, 3) := by decide +kernel
theorem dX7_readAll_23 : decode cX7_readAll 23 = .ok (.sipush 144, 3) := by decide +kernel
theorem dX7_readAll_26 : decode cX7_readAll 26 = .ok (.invokevirtual 53, 3) := by decide +kernel
theorem dX7_readAll_29 : decode cX7_readAll 29 = .ok (.ifCond .eq 27, 3) := by decide +kernel
theorem dX7_readAll_32 : decode cX7_readAll 32 = .ok (.aload_n 0, 1) := by decide +kernel
theorem dX7_readAll_33 : decode cX7_readAll 33 = .ok (.iload_n 1, 1) := by decide +kernel
theorem dX7_readAll_34 : decode cX7_readAll 34 = .ok (.invokevirtual 60, 3) := by decide +kernel
theorem dX7_readAll_37 : decode cX7_readAll 37 = .ok (.istore_n 2, 1) := by decide +kernel
theorem dX7_readAll_38 : decode cX7_readAll 38 = .ok (.aload_n 0, 1) := by decide +kernel
theorem dX7_readAll_39 : decode cX7_readAll 39 = .ok (.getfield 12, 3) := by decide +kernel
theorem dX7_readAll_42 : decode cX7_readAll 42 = .ok (.sipush 144, 3) := by decide +kernel
theorem dX7_readAll_45 : decode cX7_readAll 45 = .ok (.iconst 0, 1) := by decide +kernel
theorem dX7_readAll_46 : decode cX7_readAll 46 = .ok (.iconst 0, 1) := by decide +kernel
theorem dX7_readAll_47 : decode cX7_readAll 47 = .ok (.invokevirtual 56, 3) := by decide +kernel
theorem dX7_readAll_50 : decode cX7_readAll 50 = .ok (.iinc 3 1, 3) := by decide +kernel
theorem dX7_readAll_53 : decode cX7_readAll 53 = .ok (.goto (-45), 3) := by decide +kernel
theorem dX7_readAll_56 : decode cX7_readAll 56 = .ok (.iload_n 2, 1) := by decide +kernel
theorem dX7_readAll_57 : decode cX7_readAll 57 = .ok (.ireturn, 1) := by decide +kernel
noncomputable def fX7_readAll_s8 (one : hH → Int → Int → Option (Int × hH)) (h0 : hH) (a0 a1 : Int) : hH × Int × Int → Option ((hH × Int × Int) ⊕ (Int × hH)) := fun (h, l2, l3) =>
  if l3 < 200 then
    if l2 = 0 then
      some (.inr ((l2, h)))
    else
      (fX9_option h (h a0 0) 144).bind fun q26 =>
      if q26.1 = 0 then
        some (.inr ((l2, q26.2)))
      else
        (one q26.2 a0 a1).bind fun q34 =>
        (fX6_add q34.2 (q34.2 a0 2) 144 0 0).bind fun h47 =>
        some (.inl (h47, q34.1, w32 (l3 + 1)))
  else
    some (.inr ((l2, h)))
noncomputable def fX7_readAll (one : hH → Int → Int → Option (Int × hH)) (h : hH) (a0 a1 : Int) : Option (Int × hH) :=
  (one h a0 a1).bind fun q2 =>
  lpO (fX7_readAll_s8 one q2.2 a0 a1) (q2.2, q2.1, 0)
section M_X7_readAll
variable {p : Program} {l : Launch} {e : Env} {R : Room} {s : State} {m : MethodId} {args : Array Value} {below : List Frame} {meth : Method} {c : Code} {D : va_G} {G : gG} {A : Nat → Prop} {H0 : Heap} {n0 : Int} {x : Option vV × hH} {h : hH}
set_option maxRecDepth 100000 in
set_option maxHeartbeats 4000000 in
theorem oX7_readAll_s8 {one : hH → Int → Int → Option (Int × hH)} {d : Nat} (hone : ∀ {h : hH} {a0 a1 : Int} {r : Int × hH}, one h a0 a1 = some r → Ctr l D G true yX7_readOne (M_X7_readOne d) [(17, a0), (0, a1)] h (some (2, r.1), r.2)) {h0 : hH} {a0 a1 l2 l3 : Int} {K : (hH × Int × Int) ⊕ (Int × hH) → Prop} (k0 : ∀ r, K (.inr (r)) → x = (some (2, r.1), r.2)) (k1 : ∀ (h : hH) (l2 : Int) (l3 : Int), K (.inl (h, l2, l3)) → Wq p l e R s m args below meth c D G A H0 true n0 (M_X7_readAll d) x 0 0 8 [(0, (17, a0)), (1, (0, a1)), (2, (2, l2)), (3, (0, l3))] [] h) {r : (hH × Int × Int) ⊕ (Int × hH)} (hr : fX7_readAll_s8 one h0 a0 a1 (h, l2, l3) = some r) (hk : K r) : Wq p l e R s m args below meth c D G A H0 true n0 (M_X7_readAll d) x 0 0 8 [(0, (17, a0)), (1, (0, a1)), (2, (2, l2)), (3, (0, l3))] [] h := by
  unfold fX7_readAll_s8 at hr
  refine r_iload_n dX7_readAll_8 rfl 3 rfl (Or.inl rfl) ?_
  refine r_sipush dX7_readAll_9 (by decide) (by decide) ?_
  refine r_icmp_ge dX7_readAll_12 (tgt := 56) (by decide) (fun hc => ?_) (fun hc => ?_)
  · have hr := ifn hr hc
    refine r_iload_n dX7_readAll_56 rfl 2 rfl (Or.inr rfl) ?_
    obtain rfl := Option.some.inj hr
    exact r_ret dX7_readAll_57 rfl (Or.inr ⟨rfl, rfl⟩) (k0 _ hk) ⟨rfl, rfl⟩
  · have hr := ifp hr hc
    refine r_iload_n dX7_readAll_15 rfl 2 rfl (Or.inr rfl) ?_
    refine r_scast 0 (v := (2, l2)) (w := (0, l2)) rfl zc hTz (st' := [(0, l2)]) rfl ?_
    refine r_if_eq dX7_readAll_16 (tgt := 56) (by decide) (fun hc => ?_) (fun hc => ?_)
    · have hr := ifp hr hc
      refine r_iload_n dX7_readAll_56 rfl 2 rfl (Or.inr rfl) ?_
      obtain rfl := Option.some.inj hr
      exact r_ret dX7_readAll_57 rfl (Or.inr ⟨rfl, rfl⟩) (k0 _ hk) ⟨rfl, rfl⟩
    · have hr := ifn hr hc
      refine r_aload_n dX7_readAll_19 rfl 0 rfl (nl rfl) ?_
      refine r_get 7 0 (o := a0) (w := (19, h a0 0)) (T := TX7) (ref := "FollowingRefs$SentenceReader") rfl (by decide) rfl (by decide) inlX7 (wsl_5 _ (List.mem_of_getElem? (i := 7) rfl)) rfl dX7_readAll_20 rfl ?_
      refine r_sipush dX7_readAll_23 (by decide) (by decide) ?_
      obtain ⟨q26, hg26, hr⟩ := bnd hr
      refine k_V (ci := 9) (o := h a0 0) (T := TX9) (as := [(0, 144)]) (rest := []) (X := (some (2, q26.1), q26.2)) (oX9_option hg26) gX9_option rfl (by decide) rfl (wsl_67 _ (List.mem_of_getElem? (i := 8) rfl)) (by refine hRR ?_ ?_ ?_ ?_ ?_ <;> first | exact nl rfl | (simp only [M_X7_readOne, M_X7_readAll, M_X7_readCond, M_X9_option]; omega)) dX7_readAll_26 rfl ?_
      refine r_scast 0 (v := (2, q26.1)) (w := (0, q26.1)) rfl zc hTz (st' := [(0, q26.1)]) rfl ?_
      refine r_if_eq dX7_readAll_29 (tgt := 56) (by decide) (fun hc => ?_) (fun hc => ?_)
      · have hr := ifp hr hc
        refine r_iload_n dX7_readAll_56 rfl 2 rfl (Or.inr rfl) ?_
        obtain rfl := Option.some.inj hr
        exact r_ret dX7_readAll_57 rfl (Or.inr ⟨rfl, rfl⟩) (k0 _ hk) ⟨rfl, rfl⟩
      · have hr := ifn hr hc
        refine r_aload_n dX7_readAll_32 rfl 0 rfl (nl rfl) ?_
        refine r_iload_n dX7_readAll_33 rfl 1 rfl (Or.inl rfl) ?_
        obtain ⟨q34, hg34, hr⟩ := bnd hr
        refine k_V (ci := 7) (o := a0) (T := TX7) (as := [(0, a1)]) (rest := []) (X := (some (2, q34.1), q34.2)) (hone hg34) (gX7_readOne d) rfl (by decide) rfl (wsl_67 _ (List.mem_of_getElem? (i := 14) rfl)) (by refine hRR ?_ ?_ ?_ ?_ ?_ <;> first | exact nl rfl | (simp only [M_X7_readOne, M_X7_readAll, M_X7_readCond]; omega)) dX7_readAll_34 rfl ?_
        refine r_istore_n dX7_readAll_37 rfl (Or.inr rfl) (nl rfl) (lv' := [(2, (2, q34.1)), (0, (17, a0)), (1, (0, a1)), (3, (0, l3))]) rfl ?_
        refine r_aload_n dX7_readAll_38 rfl 1 rfl (nl rfl) ?_
        refine r_get 7 2 (o := a0) (w := (16, q34.2 a0 2)) (T := TX7) (ref := "FollowingRefs$SentenceReader") rfl (by decide) rfl (by decide) inlX7 (wsl_5 _ (List.mem_of_getElem? (i := 6) rfl)) rfl dX7_readAll_39 rfl ?_
        refine r_sipush dX7_readAll_42 (by decide) (by decide) ?_
        refine r_iconst dX7_readAll_45 (by decide) ?_
        refine r_iconst dX7_readAll_46 (by decide) ?_
        obtain ⟨h47, hg47, hr⟩ := bnd hr
        refine k_V (ci := 6) (o := q34.2 a0 2) (T := TX6) (as := [(0, 144), (0, 0), (0, 0)]) (rest := []) (X := (none, h47)) (oX6_add hg47) gX6_add rfl (by decide) rfl (wsl_67 _ (List.mem_of_getElem? (i := 9) rfl)) (by refine hRR ?_ ?_ ?_ ?_ ?_ <;> first | exact nl rfl | (simp only [M_X7_readOne, M_X7_readAll, M_X7_readCond, M_X6_add]; omega)) dX7_readAll_47 rfl ?_
        refine r_iinc (k := 3) (v := l3) dX7_readAll_50 rfl (nl rfl) (lv' := [(3, (0, w32 (l3 + 1))), (2, (2, q34.1)), (0, (17, a0)), (1, (0, a1))]) rfl ?_
        refine r_goto dX7_readAll_53 (tgt := 8) (by decide) ?_
        refine r_sub [2, 3, 1, 0] (lv' := [(0, (17, a0)), (1, (0, a1)), (2, (2, q34.1)), (3, (0, w32 (l3 + 1)))]) rfl ?_
        obtain rfl := Option.some.inj hr
        exact k1 _ _ _ hk
set_option maxRecDepth 100000 in
set_option maxHeartbeats 4000000 in
theorem oX7_readAll_b0 {one : hH → Int → Int → Option (Int × hH)} {d : Nat} (hone : ∀ {h : hH} {a0 a1 : Int} {r : Int × hH}, one h a0 a1 = some r → Ctr l D G true yX7_readOne (M_X7_readOne d) [(17, a0), (0, a1)] h (some (2, r.1), r.2)) {a0 a1 : Int} {K : Int × hH → Prop} (k0 : ∀ r, K (r) → x = (some (2, r.1), r.2)) {r : Int × hH} (hr : fX7_readAll one h a0 a1 = some r) (hk : K r) : Wq p l e R s m args below meth c D G A H0 true n0 (M_X7_readAll d) x 0 0 0 [(0, (17, a0)), (1, (0, a1))] [] h := by
  unfold fX7_readAll at hr
  refine r_aload_n dX7_readAll_0 rfl 0 rfl (nl rfl) ?_
  refine r_iload_n dX7_readAll_1 rfl 1 rfl (Or.inl rfl) ?_
  obtain ⟨q2, hg2, hr⟩ := bnd hr
  refine k_V (ci := 7) (o := a0) (T := TX7) (as := [(0, a1)]) (rest := []) (X := (some (2, q2.1), q2.2)) (hone hg2) (gX7_readOne d) rfl (by decide) rfl (wsl_67 _ (List.mem_of_getElem? (i := 14) rfl)) (by refine hRR ?_ ?_ ?_ ?_ ?_ <;> first | exact nl rfl | (simp only [M_X7_readOne, M_X7_readAll, M_X7_readCond]; omega)) dX7_readAll_2 rfl ?_
  refine r_istore_n dX7_readAll_5 rfl (Or.inr rfl) (nl rfl) (lv' := [(2, (2, q2.1)), (0, (17, a0)), (1, (0, a1))]) rfl ?_
  refine r_iconst dX7_readAll_6 (by decide) ?_
  refine r_istore_n dX7_readAll_7 rfl (Or.inl rfl) (nl rfl) (lv' := [(3, (0, 0)), (2, (2, q2.1)), (0, (17, a0)), (1, (0, a1))]) rfl ?_
  refine r_sub [2, 3, 1, 0] (lv' := [(0, (17, a0)), (1, (0, a1)), (2, (2, q2.1)), (3, (0, 0))]) rfl ?_
  exact lp_ok (w := fun (q : hH × Int × Int) => Wq p l e R s m args below meth c D G A H0 true n0 (M_X7_readAll d) x 0 0 8 [(0, (17, a0)), (1, (0, a1)), (2, (2, q.2.1)), (3, (0, q.2.2))] [] (q.1)) (K := K) (fun ⟨q0, q1, q2⟩ r h1 h2 => oX7_readAll_s8 hone (K := Sum.elim (fun (q : hH × Int × Int) => Wq p l e R s m args below meth c D G A H0 true n0 (M_X7_readAll d) x 0 0 8 [(0, (17, a0)), (1, (0, a1)), (2, (2, q.2.1)), (3, (0, q.2.2))] [] (q.1)) (K)) (fun r z => k0 r z) (fun _ _ _ z => z) h1 h2) hr hk
end M_X7_readAll
theorem oX7_readAll {l : Launch} {D : va_G} {G : gG} {one : hH → Int → Int → Option (Int × hH)} {d : Nat} (hone : ∀ {h : hH} {a0 a1 : Int} {r : Int × hH}, one h a0 a1 = some r → Ctr l D G true yX7_readOne (M_X7_readOne d) [(17, a0), (0, a1)] h (some (2, r.1), r.2)) {h : hH} {a0 a1 : Int} {r : Int × hH} (hr : fX7_readAll one h a0 a1 = some r) : Ctr l D G true yX7_readAll (M_X7_readAll d) [(17, a0), (0, a1)] h (some (2, r.1), r.2) :=
  Ctr_of (by decide) rfl (fun z => by cases z) (nl rfl) (fun {p e R s m args below meth c A H0} => by
    exact oX7_readAll_b0 hone (K := fun z9 => z9 = r) (fun r9 z => by rw [z]) hr rfl)
/-! X7_readCond -/
theorem dX7_readCond_0 : decode cX7_readCond 0 = .ok (.aload_n 0, 1) := by decide +kernel
theorem dX7_readCond_1 : decode cX7_readCond 1 = .ok (.iload_n 1, 1) := by decide +kernel
theorem dX7_readCond_2 : decode cX7_readCond 2 = .ok (.invokevirtual 50, 3) := by decide +kernel
theorem dX7_readCond_5 : decode cX7_readCond 5 = .ok (.istore_n 2, 1) := by decide +kernel
theorem dX7_readCond_6 : decode cX7_readCond 6 = .ok (.iconst 0, 1) := by decide +kernel
theorem dX7_readCond_7 : decode cX7_readCond 7 = .ok (.istore_n 3, 1) := by decide +kernel
theorem dX7_readCond_8 : decode cX7_readCond 8 = .ok (.iload_n 3, 1) := by decide +kernel
theorem dX7_readCond_9 : decode cX7_readCond 9 = .ok (.sipush 200, 3) := by decide +kernel
theorem dX7_readCond_12 : decode cX7_readCond 12 = .ok (.if_icmp .ge 44, 3) := by decide +kernel
theorem dX7_readCond_15 : decode cX7_readCond 15 = .ok (.iload_n 2, 1) := by decide +kernel
theorem dX7_readCond_16 : decode cX7_readCond 16 = .ok (.ifCond .eq 40, 3) := by decide +kernel
theorem dX7_readCond_19 : decode cX7_readCond 19 = .ok (.aload_n 0, 1) := by decide +kernel
theorem dX7_readCond_20 : decode cX7_readCond 20 = .ok (.getfield 18, 3) := by decide +kernel
theorem dX7_readCond_23 : decode cX7_readCond 23 = .ok (.sipush 150, 3) := by decide +kernel
theorem dX7_readCond_26 : decode cX7_readCond 26 = .ok (.invokevirtual 53, 3) := by decide +kernel
theorem dX7_readCond_29 : decode cX7_readCond 29 = .ok (.ifCond .eq 27, 3) := by decide +kernel
theorem dX7_readCond_32 : decode cX7_readCond 32 = .ok (.aload_n 0, 1) := by decide +kernel
theorem dX7_readCond_33 : decode cX7_readCond 33 = .ok (.iload_n 1, 1) := by decide +kernel
theorem dX7_readCond_34 : decode cX7_readCond 34 = .ok (.invokevirtual 50, 3) := by decide +kernel
theorem dX7_readCond_37 : decode cX7_readCond 37 = .ok (.istore_n 2, 1) := by decide +kernel
theorem dX7_readCond_38 : decode cX7_readCond 38 = .ok (.aload_n 0, 1) := by decide +kernel
theorem dX7_readCond_39 : decode cX7_readCond 39 = .ok (.getfield 12, 3) := by decide +kernel
theorem dX7_readCond_42 : decode cX7_readCond 42 = .ok (.sipush 150, 3) := by decide +kernel
theorem dX7_readCond_45 : decode cX7_readCond 45 = .ok (.iconst 0, 1) := by decide +kernel
theorem dX7_readCond_46 : decode cX7_readCond 46 = .ok (.iconst 0, 1) := by decide +kernel
theorem dX7_readCond_47 : decode cX7_readCond 47 = .ok (.invokevirtual 56, 3) := by decide +kernel
theorem dX7_readCond_50 : decode cX7_readCond 50 = .ok (.iinc 3 1, 3) := by decide +kernel
theorem dX7_readCond_53 : decode cX7_readCond 53 = .ok (.goto (-45), 3) := by decide +kernel
theorem dX7_readCond_56 : decode cX7_readCond 56 = .ok (.iload_n 2, 1) := by decide +kernel
theorem dX7_readCond_57 : decode cX7_readCond 57 = .ok (.ireturn, 1) := by decide +kernel
noncomputable def fX7_readCond_s8 (one : hH → Int → Int → Option (Int × hH)) (h0 : hH) (a0 a1 : Int) : hH × Int × Int → Option ((hH × Int × Int) ⊕ (Int × hH)) := fun (h, l2, l3) =>
  if l3 < 200 then
    if l2 = 0 then
      some (.inr ((l2, h)))
    else
      (fX9_option h (h a0 0) 150).bind fun q26 =>
      if q26.1 = 0 then
        some (.inr ((l2, q26.2)))
      else
        (fX7_readAll one q26.2 a0 a1).bind fun q34 =>
        (fX6_add q34.2 (q34.2 a0 2) 150 0 0).bind fun h47 =>
        some (.inl (h47, q34.1, w32 (l3 + 1)))
  else
    some (.inr ((l2, h)))
noncomputable def fX7_readCond (one : hH → Int → Int → Option (Int × hH)) (h : hH) (a0 a1 : Int) : Option (Int × hH) :=
  (fX7_readAll one h a0 a1).bind fun q2 =>
  lpO (fX7_readCond_s8 one q2.2 a0 a1) (q2.2, q2.1, 0)
section M_X7_readCond
variable {p : Program} {l : Launch} {e : Env} {R : Room} {s : State} {m : MethodId} {args : Array Value} {below : List Frame} {meth : Method} {c : Code} {D : va_G} {G : gG} {A : Nat → Prop} {H0 : Heap} {n0 : Int} {x : Option vV × hH} {h : hH}
set_option maxRecDepth 100000 in
set_option maxHeartbeats 4000000 in
theorem oX7_readCond_s8 {one : hH → Int → Int → Option (Int × hH)} {d : Nat} (hone : ∀ {h : hH} {a0 a1 : Int} {r : Int × hH}, one h a0 a1 = some r → Ctr l D G true yX7_readOne (M_X7_readOne d) [(17, a0), (0, a1)] h (some (2, r.1), r.2)) {h0 : hH} {a0 a1 l2 l3 : Int} {K : (hH × Int × Int) ⊕ (Int × hH) → Prop} (k0 : ∀ r, K (.inr (r)) → x = (some (2, r.1), r.2)) (k1 : ∀ (h : hH) (l2 : Int) (l3 : Int), K (.inl (h, l2, l3)) → Wq p l e R s m args below meth c D G A H0 true n0 (M_X7_readCond d) x 0 0 8 [(0, (17, a0)), (1, (0, a1)), (2, (2, l2)), (3, (0, l3))] [] h) {r : (hH × Int × Int) ⊕ (Int × hH)} (hr : fX7_readCond_s8 one h0 a0 a1 (h, l2, l3) = some r) (hk : K r) : Wq p l e R s m args below meth c D G A H0 true n0 (M_X7_readCond d) x 0 0 8 [(0, (17, a0)), (1, (0, a1)), (2, (2, l2)), (3, (0, l3))] [] h := by
  unfold fX7_readCond_s8 at hr
  refine r_iload_n dX7_readCond_8 rfl 3 rfl (Or.inl rfl) ?_
  refine r_sipush dX7_readCond_9 (by decide) (by decide) ?_
  refine r_icmp_ge dX7_readCond_12 (tgt := 56) (by decide) (fun hc => ?_) (fun hc => ?_)
  · have hr := ifn hr hc
    refine r_iload_n dX7_readCond_56 rfl 2 rfl (Or.inr rfl) ?_
    obtain rfl := Option.some.inj hr
    exact r_ret dX7_readCond_57 rfl (Or.inr ⟨rfl, rfl⟩) (k0 _ hk) ⟨rfl, rfl⟩
  · have hr := ifp hr hc
    refine r_iload_n dX7_readCond_15 rfl 2 rfl (Or.inr rfl) ?_
    refine r_scast 0 (v := (2, l2)) (w := (0, l2)) rfl zc hTz (st' := [(0, l2)]) rfl ?_
    refine r_if_eq dX7_readCond_16 (tgt := 56) (by decide) (fun hc => ?_) (fun hc => ?_)
    · have hr := ifp hr hc
      refine r_iload_n dX7_readCond_56 rfl 2 rfl (Or.inr rfl) ?_
      obtain rfl := Option.some.inj hr
      exact r_ret dX7_readCond_57 rfl (Or.inr ⟨rfl, rfl⟩) (k0 _ hk) ⟨rfl, rfl⟩
    · have hr := ifn hr hc
      refine r_aload_n dX7_readCond_19 rfl 0 rfl (nl rfl) ?_
      refine r_get 7 0 (o := a0) (w := (19, h a0 0)) (T := TX7) (ref := "FollowingRefs$SentenceReader") rfl (by decide) rfl (by decide) inlX7 (wsl_5 _ (List.mem_of_getElem? (i := 7) rfl)) rfl dX7_readCond_20 rfl ?_
      refine r_sipush dX7_readCond_23 (by decide) (by decide) ?_
      obtain ⟨q26, hg26, hr⟩ := bnd hr
      refine k_V (ci := 9) (o := h a0 0) (T := TX9) (as := [(0, 150)]) (rest := []) (X := (some (2, q26.1), q26.2)) (oX9_option hg26) gX9_option rfl (by decide) rfl (wsl_67 _ (List.mem_of_getElem? (i := 8) rfl)) (by refine hRR ?_ ?_ ?_ ?_ ?_ <;> first | exact nl rfl | (simp only [M_X7_readOne, M_X7_readAll, M_X7_readCond, M_X9_option]; omega)) dX7_readCond_26 rfl ?_
      refine r_scast 0 (v := (2, q26.1)) (w := (0, q26.1)) rfl zc hTz (st' := [(0, q26.1)]) rfl ?_
      refine r_if_eq dX7_readCond_29 (tgt := 56) (by decide) (fun hc => ?_) (fun hc => ?_)
      · have hr := ifp hr hc
        refine r_iload_n dX7_readCond_56 rfl 2 rfl (Or.inr rfl) ?_
        obtain rfl := Option.some.inj hr
        exact r_ret dX7_readCond_57 rfl (Or.inr ⟨rfl, rfl⟩) (k0 _ hk) ⟨rfl, rfl⟩
      · have hr := ifn hr hc
        refine r_aload_n dX7_readCond_32 rfl 0 rfl (nl rfl) ?_
        refine r_iload_n dX7_readCond_33 rfl 1 rfl (Or.inl rfl) ?_
        obtain ⟨q34, hg34, hr⟩ := bnd hr
        refine k_V (ci := 7) (o := a0) (T := TX7) (as := [(0, a1)]) (rest := []) (X := (some (2, q34.1), q34.2)) (oX7_readAll hone hg34) (gX7_readAll d) rfl (by decide) rfl (wsl_67 _ (List.mem_of_getElem? (i := 5) rfl)) (by refine hRR ?_ ?_ ?_ ?_ ?_ <;> first | exact nl rfl | (simp only [M_X7_readOne, M_X7_readAll, M_X7_readCond]; omega)) dX7_readCond_34 rfl ?_
        refine r_istore_n dX7_readCond_37 rfl (Or.inr rfl) (nl rfl) (lv' := [(2, (2, q34.1)), (0, (17, a0)), (1, (0, a1)), (3, (0, l3))]) rfl ?_
        refine r_aload_n dX7_readCond_38 rfl 1 rfl (nl rfl) ?_
        refine r_get 7 2 (o := a0) (w := (16, q34.2 a0 2)) (T := TX7) (ref := "FollowingRefs$SentenceReader") rfl (by decide) rfl (by decide) inlX7 (wsl_5 _ (List.mem_of_getElem? (i := 6) rfl)) rfl dX7_readCond_39 rfl ?_
        refine r_sipush dX7_readCond_42 (by decide) (by decide) ?_
        refine r_iconst dX7_readCond_45 (by decide) ?_
        refine r_iconst dX7_readCond_46 (by decide) ?_
        obtain ⟨h47, hg47, hr⟩ := bnd hr
        refine k_V (ci := 6) (o := q34.2 a0 2) (T := TX6) (as := [(0, 150), (0, 0), (0, 0)]) (rest := []) (X := (none, h47)) (oX6_add hg47) gX6_add rfl (by decide) rfl (wsl_67 _ (List.mem_of_getElem? (i := 9) rfl)) (by refine hRR ?_ ?_ ?_ ?_ ?_ <;> first | exact nl rfl | (simp only [M_X7_readOne, M_X7_readAll, M_X7_readCond, M_X6_add]; omega)) dX7_readCond_47 rfl ?_
        refine r_iinc (k := 3) (v := l3) dX7_readCond_50 rfl (nl rfl) (lv' := [(3, (0, w32 (l3 + 1))), (2, (2, q34.1)), (0, (17, a0)), (1, (0, a1))]) rfl ?_
        refine r_goto dX7_readCond_53 (tgt := 8) (by decide) ?_
        refine r_sub [2, 3, 1, 0] (lv' := [(0, (17, a0)), (1, (0, a1)), (2, (2, q34.1)), (3, (0, w32 (l3 + 1)))]) rfl ?_
        obtain rfl := Option.some.inj hr
        exact k1 _ _ _ hk
set_option maxRecDepth 100000 in
set_option maxHeartbeats 4000000 in
theorem oX7_readCond_b0 {one : hH → Int → Int → Option (Int × hH)} {d : Nat} (hone : ∀ {h : hH} {a0 a1 : Int} {r : Int × hH}, one h a0 a1 = some r → Ctr l D G true yX7_readOne (M_X7_readOne d) [(17, a0), (0, a1)] h (some (2, r.1), r.2)) {a0 a1 : Int} {K : Int × hH → Prop} (k0 : ∀ r, K (r) → x = (some (2, r.1), r.2)) {r : Int × hH} (hr : fX7_readCond one h a0 a1 = some r) (hk : K r) : Wq p l e R s m args below meth c D G A H0 true n0 (M_X7_readCond d) x 0 0 0 [(0, (17, a0)), (1, (0, a1))] [] h := by
  unfold fX7_readCond at hr
  refine r_aload_n dX7_readCond_0 rfl 0 rfl (nl rfl) ?_
  refine r_iload_n dX7_readCond_1 rfl 1 rfl (Or.inl rfl) ?_
  obtain ⟨q2, hg2, hr⟩ := bnd hr
  refine k_V (ci := 7) (o := a0) (T := TX7) (as := [(0, a1)]) (rest := []) (X := (some (2, q2.1), q2.2)) (oX7_readAll hone hg2) (gX7_readAll d) rfl (by decide) rfl (wsl_67 _ (List.mem_of_getElem? (i := 5) rfl)) (by refine hRR ?_ ?_ ?_ ?_ ?_ <;> first | exact nl rfl | (simp only [M_X7_readOne, M_X7_readAll, M_X7_readCond]; omega)) dX7_readCond_2 rfl ?_
  refine r_istore_n dX7_readCond_5 rfl (Or.inr rfl) (nl rfl) (lv' := [(2, (2, q2.1)), (0, (17, a0)), (1, (0, a1))]) rfl ?_
  refine r_iconst dX7_readCond_6 (by decide) ?_
  refine r_istore_n dX7_readCond_7 rfl (Or.inl rfl) (nl rfl) (lv' := [(3, (0, 0)), (2, (2, q2.1)), (0, (17, a0)), (1, (0, a1))]) rfl ?_
  refine r_sub [2, 3, 1, 0] (lv' := [(0, (17, a0)), (1, (0, a1)), (2, (2, q2.1)), (3, (0, 0))]) rfl ?_
  exact lp_ok (w := fun (q : hH × Int × Int) => Wq p l e R s m args below meth c D G A H0 true n0 (M_X7_readCond d) x 0 0 8 [(0, (17, a0)), (1, (0, a1)), (2, (2, q.2.1)), (3, (0, q.2.2))] [] (q.1)) (K := K) (fun ⟨q0, q1, q2⟩ r h1 h2 => oX7_readCond_s8 hone (K := Sum.elim (fun (q : hH × Int × Int) => Wq p l e R s m args below meth c D G A H0 true n0 (M_X7_readCond d) x 0 0 8 [(0, (17, a0)), (1, (0, a1)), (2, (2, q.2.1)), (3, (0, q.2.2))] [] (q.1)) (K)) (fun r z => k0 r z) (fun _ _ _ z => z) h1 h2) hr hk
end M_X7_readCond
theorem oX7_readCond {l : Launch} {D : va_G} {G : gG} {one : hH → Int → Int → Option (Int × hH)} {d : Nat} (hone : ∀ {h : hH} {a0 a1 : Int} {r : Int × hH}, one h a0 a1 = some r → Ctr l D G true yX7_readOne (M_X7_readOne d) [(17, a0), (0, a1)] h (some (2, r.1), r.2)) {h : hH} {a0 a1 : Int} {r : Int × hH} (hr : fX7_readCond one h a0 a1 = some r) : Ctr l D G true yX7_readCond (M_X7_readCond d) [(17, a0), (0, a1)] h (some (2, r.1), r.2) :=
  Ctr_of (by decide) rfl (fun z => by cases z) (nl rfl) (fun {p e R s m args below meth c A H0} => by
    exact oX7_readCond_b0 hone (K := fun z9 => z9 = r) (fun r9 z => by rw [z]) hr rfl)
/-! X7_readOne -/
theorem dX7_readOne_0 : decode cX7_readOne 0 = .ok (.aload_n 0, 1) := by decide +kernel
theorem dX7_readOne_1 : decode cX7_readOne 1 = .ok (.getfield 18, 3) := by decide +kernel
theorem dX7_readOne_4 : decode cX7_readOne 4 = .ok (.getfield 43, 3) := by decide +kernel
theorem dX7_readOne_7 : decode cX7_readOne 7 = .ok (.istore_n 2, 1) := by decide +kernel
theorem dX7_readOne_8 : decode cX7_readOne 8 = .ok (.iload_n 2, 1) := by decide +kernel
theorem dX7_readOne_9 : decode cX7_readOne 9 = .ok (.invokestatic 63, 3) := by decide +kernel
theorem dX7_readOne_12 : decode cX7_readOne 12 = .ok (.ifCond .ne 12, 3) := by decide +kernel
theorem dX7_readOne_15 : decode cX7_readOne 15 = .ok (.aload_n 0, 1) := by decide +kernel
theorem dX7_readOne_16 : decode cX7_readOne 16 = .ok (.getfield 18, 3) := by decide +kernel
theorem dX7_readOne_19 : decode cX7_readOne 19 = .ok (.iconst 1, 1) := by decide +kernel
theorem dX7_readOne_20 : decode cX7_readOne 20 = .ok (.invokevirtual 47, 3) := by decide +kernel
theorem dX7_readOne_23 : decode cX7_readOne 23 = .ok (.ireturn, 1) := by decide +kernel
theorem dX7_readOne_24 : decode cX7_readOne 24 = .ok (.iload_n 2, 1) := by decide +kernel
theorem dX7_readOne_25 : decode cX7_readOne 25 = .ok (.iconst 4, 1) := by decide +kernel
theorem dX7_readOne_26 : decode cX7_readOne 26 = .ok (.if_icmp .ne 20, 3) := by decide +kernel
theorem dX7_readOne_29 : decode cX7_readOne 29 = .ok (.aload_n 0, 1) := by decide +kernel
theorem dX7_readOne_30 : decode cX7_readOne 30 = .ok (.getfield 22, 3) := by decide +kernel
theorem dX7_readOne_33 : decode cX7_readOne 33 = .ok (.aload_n 0, 1) := by decide +kernel
theorem dX7_readOne_34 : decode cX7_readOne 34 = .ok (.getfield 18, 3) := by decide +kernel
theorem dX7_readOne_37 : decode cX7_readOne 37 = .ok (.getfield 66, 3) := by decide +kernel
theorem dX7_readOne_40 : decode cX7_readOne 40 = .ok (.invokestatic 70, 3) := by decide +kernel
theorem dX7_readOne_43 : decode cX7_readOne 43 = .ok (.goto 4, 3) := by decide +kernel
theorem dX7_readOne_46 : decode cX7_readOne 46 = .ok (.iconst 0, 1) := by decide +kernel
theorem dX7_readOne_47 : decode cX7_readOne 47 = .ok (.istore_n 3, 1) := by decide +kernel
theorem dX7_readOne_48 : decode cX7_readOne 48 = .ok (.iload_n 2, 1) := by decide +kernel
theorem dX7_readOne_49 : decode cX7_readOne 49 = .ok (.iconst 4, 1) := by decide +kernel
theorem dX7_readOne_50 : decode cX7_readOne 50 = .ok (.if_icmp .ne 16, 3) := by decide +kernel
theorem dX7_readOne_53 : decode cX7_readOne 53 = .ok (.iload_n 3, 1) := by decide +kernel
theorem dX7_readOne_54 : decode cX7_readOne 54 = .ok (.ifCond .ne 12, 3) := by decide +kernel
theorem dX7_readOne_57 : decode cX7_readOne 57 = .ok (.aload_n 0, 1) := by decide +kernel
theorem dX7_readOne_58 : decode cX7_readOne 58 = .ok (.getfield 18, 3) := by decide +kernel
theorem dX7_readOne_61 : decode cX7_readOne 61 = .ok (.iconst 3, 1) := by decide +kernel
theorem dX7_readOne_62 : decode cX7_readOne 62 = .ok (.invokevirtual 47, 3) := by decide +kernel
theorem dX7_readOne_65 : decode cX7_readOne 65 = .ok (.ireturn, 1) := by decide +kernel
theorem dX7_readOne_66 : decode cX7_readOne 66 = .ok (.aload_n 0, 1) := by decide +kernel
theorem dX7_readOne_67 : decode cX7_readOne 67 = .ok (.getfield 12, 3) := by decide +kernel
theorem dX7_readOne_70 : decode cX7_readOne 70 = .ok (.getfield 74, 3) := by decide +kernel
theorem dX7_readOne_73 : decode cX7_readOne 73 = .ok (.bipush 20, 2) := by decide +kernel
theorem dX7_readOne_75 : decode cX7_readOne 75 = .ok (.if_icmp .ge 9, 3) := by decide +kernel
theorem dX7_readOne_78 : decode cX7_readOne 78 = .ok (.iload_n 1, 1) := by decide +kernel
theorem dX7_readOne_79 : decode cX7_readOne 79 = .ok (.bipush 8, 2) := by decide +kernel
theorem dX7_readOne_81 : decode cX7_readOne 81 = .ok (.if_icmp .le 12, 3) := by decide +kernel
theorem dX7_readOne_84 : decode cX7_readOne 84 = .ok (.aload_n 0, 1) := by decide +kernel
theorem dX7_readOne_85 : decode cX7_readOne 85 = .ok (.getfield 18, 3) := by decide +kernel
theorem dX7_readOne_88 : decode cX7_readOne 88 = .ok (.iconst 4, 1) := by decide +kernel
theorem dX7_readOne_89 : decode cX7_readOne 89 = .ok (.invokevirtual 47, 3) := by decide +kernel
theorem dX7_readOne_92 : decode cX7_readOne 92 = .ok (.ireturn, 1) := by decide +kernel
theorem dX7_readOne_93 : decode cX7_readOne 93 = .ok (.aload_n 0, 1) := by decide +kernel
theorem dX7_readOne_94 : decode cX7_readOne 94 = .ok (.getfield 12, 3) := by decide +kernel
theorem dX7_readOne_97 : decode cX7_readOne 97 = .ok (.dup, 1) := by decide +kernel
theorem dX7_readOne_98 : decode cX7_readOne 98 = .ok (.getfield 74, 3) := by decide +kernel
theorem dX7_readOne_101 : decode cX7_readOne 101 = .ok (.iconst 1, 1) := by decide +kernel
theorem dX7_readOne_102 : decode cX7_readOne 102 = .ok (.iadd, 1) := by decide +kernel
theorem dX7_readOne_103 : decode cX7_readOne 103 = .ok (.putfield 74, 3) := by decide +kernel
theorem dX7_readOne_106 : decode cX7_readOne 106 = .ok (.aload_n 0, 1) := by decide +kernel
theorem dX7_readOne_107 : decode cX7_readOne 107 = .ok (.getfield 18, 3) := by decide +kernel
theorem dX7_readOne_110 : decode cX7_readOne 110 = .ok (.invokevirtual 77, 3) := by decide +kernel
theorem dX7_readOne_113 : decode cX7_readOne 113 = .ok (.iload_n 2, 1) := by decide +kernel
theorem dX7_readOne_114 : decode cX7_readOne 114 = .ok (.lookupswitch 156 #[(4, 150), (40, 76), (151, 50), (155, 104), (156, 142)], 50) := by decide +kernel
theorem dX7_readOne_164 : decode cX7_readOne 164 = .ok (.aload_n 0, 1) := by decide +kernel
theorem dX7_readOne_165 : decode cX7_readOne 165 = .ok (.iload_n 1, 1) := by decide +kernel
theorem dX7_readOne_166 : decode cX7_readOne 166 = .ok (.iconst 1, 1) := by decide +kernel
theorem dX7_readOne_167 : decode cX7_readOne 167 = .ok (.iadd, 1) := by decide +kernel
theorem dX7_readOne_168 : decode cX7_readOne 168 = .ok (.invokevirtual 60, 3) := by decide +kernel
theorem dX7_readOne_171 : decode cX7_readOne 171 = .ok (.ifCond .ne 5, 3) := by decide +kernel
theorem dX7_readOne_174 : decode cX7_readOne 174 = .ok (.iconst 0, 1) := by decide +kernel
theorem dX7_readOne_175 : decode cX7_readOne 175 = .ok (.ireturn, 1) := by decide +kernel
theorem dX7_readOne_176 : decode cX7_readOne 176 = .ok (.aload_n 0, 1) := by decide +kernel
theorem dX7_readOne_177 : decode cX7_readOne 177 = .ok (.getfield 12, 3) := by decide +kernel
theorem dX7_readOne_180 : decode cX7_readOne 180 = .ok (.sipush 151, 3) := by decide +kernel
theorem dX7_readOne_183 : decode cX7_readOne 183 = .ok (.iconst 0, 1) := by decide +kernel
theorem dX7_readOne_184 : decode cX7_readOne 184 = .ok (.iconst 0, 1) := by decide +kernel
theorem dX7_readOne_185 : decode cX7_readOne 185 = .ok (.invokevirtual 56, 3) := by decide +kernel
theorem dX7_readOne_188 : decode cX7_readOne 188 = .ok (.iconst 1, 1) := by decide +kernel
theorem dX7_readOne_189 : decode cX7_readOne 189 = .ok (.ireturn, 1) := by decide +kernel
theorem dX7_readOne_190 : decode cX7_readOne 190 = .ok (.aload_n 0, 1) := by decide +kernel
theorem dX7_readOne_191 : decode cX7_readOne 191 = .ok (.iload_n 1, 1) := by decide +kernel
theorem dX7_readOne_192 : decode cX7_readOne 192 = .ok (.iconst 1, 1) := by decide +kernel
theorem dX7_readOne_193 : decode cX7_readOne 193 = .ok (.iadd, 1) := by decide +kernel
theorem dX7_readOne_194 : decode cX7_readOne 194 = .ok (.invokevirtual 39, 3) := by decide +kernel
theorem dX7_readOne_197 : decode cX7_readOne 197 = .ok (.ifCond .eq 19, 3) := by decide +kernel
theorem dX7_readOne_200 : decode cX7_readOne 200 = .ok (.aload_n 0, 1) := by decide +kernel
theorem dX7_readOne_201 : decode cX7_readOne 201 = .ok (.getfield 18, 3) := by decide +kernel
theorem dX7_readOne_204 : decode cX7_readOne 204 = .ok (.bipush 41, 2) := by decide +kernel
theorem dX7_readOne_206 : decode cX7_readOne 206 = .ok (.invokevirtual 80, 3) := by decide +kernel
theorem dX7_readOne_209 : decode cX7_readOne 209 = .ok (.ifCond .eq 7, 3) := by decide +kernel
theorem dX7_readOne_212 : decode cX7_readOne 212 = .ok (.iconst 1, 1) := by decide +kernel
theorem dX7_readOne_213 : decode cX7_readOne 213 = .ok (.goto 4, 3) := by decide +kernel
theorem dX7_readOne_216 : decode cX7_readOne 216 = .ok (.iconst 0, 1) := by decide +kernel
theorem dX7_readOne_217 : decode cX7_readOne 217 = .ok (.ireturn, 1) := by decide +kernel
theorem dX7_readOne_218 : decode cX7_readOne 218 = .ok (.aload_n 0, 1) := by decide +kernel
theorem dX7_readOne_219 : decode cX7_readOne 219 = .ok (.getfield 18, 3) := by decide +kernel
theorem dX7_readOne_222 : decode cX7_readOne 222 = .ok (.aload_n 0, 1) := by decide +kernel
theorem dX7_readOne_223 : decode cX7_readOne 223 = .ok (.getfield 22, 3) := by decide +kernel
theorem dX7_readOne_226 : decode cX7_readOne 226 = .ok (.invokevirtual 83, 3) := by decide +kernel
theorem dX7_readOne_229 : decode cX7_readOne 229 = .ok (.istore 4, 2) := by decide +kernel
theorem dX7_readOne_231 : decode cX7_readOne 231 = .ok (.aload_n 0, 1) := by decide +kernel
theorem dX7_readOne_232 : decode cX7_readOne 232 = .ok (.getfield 12, 3) := by decide +kernel
theorem dX7_readOne_235 : decode cX7_readOne 235 = .ok (.sipush 155, 3) := by decide +kernel
theorem dX7_readOne_238 : decode cX7_readOne 238 = .ok (.iload 4, 2) := by decide +kernel
theorem dX7_readOne_240 : decode cX7_readOne 240 = .ok (.iconst 0, 1) := by decide +kernel
theorem dX7_readOne_241 : decode cX7_readOne 241 = .ok (.invokevirtual 56, 3) := by decide +kernel
theorem dX7_readOne_244 : decode cX7_readOne 244 = .ok (.iload 4, 2) := by decide +kernel
theorem dX7_readOne_246 : decode cX7_readOne 246 = .ok (.iconst (-1), 1) := by decide +kernel
theorem dX7_readOne_247 : decode cX7_readOne 247 = .ok (.if_icmp .eq 7, 3) := by decide +kernel
theorem dX7_readOne_250 : decode cX7_readOne 250 = .ok (.iconst 1, 1) := by decide +kernel
theorem dX7_readOne_251 : decode cX7_readOne 251 = .ok (.goto 4, 3) := by decide +kernel
theorem dX7_readOne_254 : decode cX7_readOne 254 = .ok (.iconst 0, 1) := by decide +kernel
theorem dX7_readOne_255 : decode cX7_readOne 255 = .ok (.ireturn, 1) := by decide +kernel
theorem dX7_readOne_256 : decode cX7_readOne 256 = .ok (.aload_n 0, 1) := by decide +kernel
theorem dX7_readOne_257 : decode cX7_readOne 257 = .ok (.sipush 156, 3) := by decide +kernel
theorem dX7_readOne_260 : decode cX7_readOne 260 = .ok (.invokevirtual 87, 3) := by decide +kernel
theorem dX7_readOne_263 : decode cX7_readOne 263 = .ok (.ireturn, 1) := by decide +kernel
theorem dX7_readOne_264 : decode cX7_readOne 264 = .ok (.aload_n 0, 1) := by decide +kernel
theorem dX7_readOne_265 : decode cX7_readOne 265 = .ok (.iload_n 3, 1) := by decide +kernel
theorem dX7_readOne_266 : decode cX7_readOne 266 = .ok (.invokevirtual 87, 3) := by decide +kernel
theorem dX7_readOne_269 : decode cX7_readOne 269 = .ok (.ireturn, 1) := by decide +kernel
theorem dX7_readOne_270 : decode cX7_readOne 270 = .ok (.aload_n 0, 1) := by decide +kernel
theorem dX7_readOne_271 : decode cX7_readOne 271 = .ok (.getfield 12, 3) := by decide +kernel
theorem dX7_readOne_274 : decode cX7_readOne 274 = .ok (.iload_n 2, 1) := by decide +kernel
theorem dX7_readOne_275 : decode cX7_readOne 275 = .ok (.iconst 0, 1) := by decide +kernel
theorem dX7_readOne_276 : decode cX7_readOne 276 = .ok (.iconst 0, 1) := by decide +kernel
theorem dX7_readOne_277 : decode cX7_readOne 277 = .ok (.invokevirtual 56, 3) := by decide +kernel
theorem dX7_readOne_280 : decode cX7_readOne 280 = .ok (.iconst 1, 1) := by decide +kernel
theorem dX7_readOne_281 : decode cX7_readOne 281 = .ok (.ireturn, 1) := by decide +kernel
noncomputable def fX7_readOneG_b84 (one : hH → Int → Int → Option (Int × hH)) (h : hH) (a0 : Int) : Option (Int × hH) :=
  (fX9_fail h (h a0 0) 4).bind fun q89 =>
  some (q89.1, q89.2)
noncomputable def fX7_readOneG_b66 (one : hH → Int → Int → Option (Int × hH)) (h : hH) (a0 a1 l2 l3 : Int) : Option (Int × hH) :=
  if h (h a0 2) 1 < 20 then
    if 8 < a1 then
      fX7_readOneG_b84 one h a0
    else
      (pput h (h a0 2) 1 (w32 ((h (h a0 2) 1) + 1))).bind fun h103 =>
      (fX9_step h103 (h103 a0 0)).bind fun h110 =>
      if l2 = 4 then
        (fX7_readComparison h110 a0 l3).bind fun q266 =>
        some (q266.1, q266.2)
      else
        if l2 = 40 then
          (fX7_readCond one h110 a0 (w32 (a1 + 1))).bind fun q194 =>
          if q194.1 = 0 then
            some (0, q194.2)
          else
            (fX9_take q194.2 (q194.2 a0 0) 41).bind fun q206 =>
            if q206.1 = 0 then
              some (0, q206.2)
            else
              some (1, q206.2)
        else
          if l2 = 151 then
            (one h110 a0 (w32 (a1 + 1))).bind fun q168 =>
            if q168.1 = 0 then
              some (0, q168.2)
            else
              (fX6_add q168.2 (q168.2 a0 2) 151 0 0).bind fun h185 =>
              some (1, h185)
          else
            if l2 = 155 then
              (fX9_takeTable h110 (h110 a0 0) (h110 a0 1)).bind fun q226 =>
              (fX6_add q226.2 (q226.2 a0 2) 155 q226.1 0).bind fun h241 =>
              if q226.1 = -1 then
                some (0, h241)
              else
                some (1, h241)
            else
              if l2 = 156 then
                (fX7_readComparison h110 a0 156).bind fun q260 =>
                some (q260.1, q260.2)
              else
                (fX6_add h110 (h110 a0 2) l2 0 0).bind fun h277 =>
                some (1, h277)
  else
    fX7_readOneG_b84 one h a0
noncomputable def fX7_readOneG_b47 (one : hH → Int → Int → Option (Int × hH)) (h : hH) (a0 a1 l2 s0 : Int) : Option (Int × hH) :=
  if l2 = 4 then
    if s0 = 0 then
      (fX9_fail h (h a0 0) 3).bind fun q62 =>
      some (q62.1, q62.2)
    else
      fX7_readOneG_b66 one h a0 a1 l2 s0
  else
    fX7_readOneG_b66 one h a0 a1 l2 s0
noncomputable def fX7_readOneG (one : hH → Int → Int → Option (Int × hH)) (h : hH) (a0 a1 : Int) : Option (Int × hH) :=
  (fX7_startsOne h (h (h a0 0) 5)).bind fun r9 =>
  if r9 = 0 then
    (fX9_fail h (h a0 0) 1).bind fun q20 =>
    some (q20.1, q20.2)
  else
    if h (h a0 0) 5 = 4 then
      (fX6_colsNamed h (h a0 1) (h (h a0 0) 7)).bind fun r40 =>
      fX7_readOneG_b47 one h a0 a1 (h (h a0 0) 5) r40
    else
      fX7_readOneG_b47 one h a0 a1 (h (h a0 0) 5) 0
section M_X7_readOne
variable {p : Program} {l : Launch} {e : Env} {R : Room} {s : State} {m : MethodId} {args : Array Value} {below : List Frame} {meth : Method} {c : Code} {D : va_G} {G : gG} {A : Nat → Prop} {H0 : Heap} {n0 : Int} {x : Option vV × hH} {h : hH}
set_option maxRecDepth 100000 in
set_option maxHeartbeats 4000000 in
theorem oX7_readOne_b84 {one : hH → Int → Int → Option (Int × hH)} {d : Nat} (hone : ∀ {h : hH} {a0 a1 : Int} {r : Int × hH}, one h a0 a1 = some r → Ctr l D G true yX7_readOne (M_X7_readOne d) [(17, a0), (0, a1)] h (some (2, r.1), r.2)) {a0 : Int} {K : Int × hH → Prop} (k0 : ∀ r, K (r) → x = (some (2, r.1), r.2)) {r : Int × hH} (hr : fX7_readOneG_b84 one h a0 = some r) (hk : K r) : Wq p l e R s m args below meth c D G A H0 true n0 (M_X7_readOne (d + 1)) x 0 0 84 [(0, (17, a0))] [] h := by
  unfold fX7_readOneG_b84 at hr
  refine r_aload_n dX7_readOne_84 rfl 0 rfl (nl rfl) ?_
  refine r_get 7 0 (o := a0) (w := (19, h a0 0)) (T := TX7) (ref := "FollowingRefs$SentenceReader") rfl (by decide) rfl (by decide) inlX7 (wsl_5 _ (List.mem_of_getElem? (i := 7) rfl)) rfl dX7_readOne_85 rfl ?_
  refine r_iconst dX7_readOne_88 (by decide) ?_
  obtain ⟨q89, hg89, hr⟩ := bnd hr
  refine k_V (ci := 9) (o := h a0 0) (T := TX9) (as := [(0, 4)]) (rest := []) (X := (some (2, q89.1), q89.2)) (oX9_fail hg89) gX9_fail rfl (by decide) rfl (wsl_67 _ (List.mem_of_getElem? (i := 23) rfl)) (by refine hRR ?_ ?_ ?_ ?_ ?_ <;> first | exact nl rfl | (simp only [M_X7_readOne, M_X7_readAll, M_X7_readCond, M_X9_fail]; omega)) dX7_readOne_89 rfl ?_
  obtain rfl := Option.some.inj hr
  exact r_ret dX7_readOne_92 rfl (Or.inr ⟨rfl, rfl⟩) (k0 _ hk) ⟨rfl, rfl⟩
set_option maxRecDepth 100000 in
set_option maxHeartbeats 4000000 in
theorem oX7_readOne_b66 {one : hH → Int → Int → Option (Int × hH)} {d : Nat} (hone : ∀ {h : hH} {a0 a1 : Int} {r : Int × hH}, one h a0 a1 = some r → Ctr l D G true yX7_readOne (M_X7_readOne d) [(17, a0), (0, a1)] h (some (2, r.1), r.2)) {a0 a1 l2 l3 : Int} {K : Int × hH → Prop} (k0 : ∀ r, K (r) → x = (some (2, r.1), r.2)) {r : Int × hH} (hr : fX7_readOneG_b66 one h a0 a1 l2 l3 = some r) (hk : K r) : Wq p l e R s m args below meth c D G A H0 true n0 (M_X7_readOne (d + 1)) x 0 0 66 [(0, (17, a0)), (1, (0, a1)), (2, (0, l2)), (3, (0, l3))] [] h := by
  unfold fX7_readOneG_b66 at hr
  refine r_aload_n dX7_readOne_66 rfl 0 rfl (nl rfl) ?_
  refine r_get 7 2 (o := a0) (w := (16, h a0 2)) (T := TX7) (ref := "FollowingRefs$SentenceReader") rfl (by decide) rfl (by decide) inlX7 (wsl_5 _ (List.mem_of_getElem? (i := 6) rfl)) rfl dX7_readOne_67 rfl ?_
  refine r_get 6 1 (o := h a0 2) (w := (0, h (h a0 2) 1)) (T := TX6) (ref := "FollowingRefs$Sentence") rfl (by decide) rfl (by decide) inlX6 (wsl_67 _ (List.mem_of_getElem? (i := 19) rfl)) rfl dX7_readOne_70 rfl ?_
  refine r_bipush dX7_readOne_73 (by decide) (by decide) ?_
  refine r_icmp_ge dX7_readOne_75 (tgt := 84) (by decide) (fun hc => ?_) (fun hc => ?_)
  · have hr := ifn hr hc
    refine r_sub [0] (lv' := [(0, (17, a0))]) rfl ?_
    exact oX7_readOne_b84 hone (K := K) (fun r z => k0 r z) hr hk
  · have hr := ifp hr hc
    refine r_iload_n dX7_readOne_78 rfl 1 rfl (Or.inl rfl) ?_
    refine r_bipush dX7_readOne_79 (by decide) (by decide) ?_
    refine r_icmp_le dX7_readOne_81 (tgt := 93) (by decide) (fun hc => ?_) (fun hc => ?_)
    · have hr := ifn hr hc
      refine r_aload_n dX7_readOne_93 rfl 0 rfl (nl rfl) ?_
      refine r_get 7 2 (o := a0) (w := (16, h a0 2)) (T := TX7) (ref := "FollowingRefs$SentenceReader") rfl (by decide) rfl (by decide) inlX7 (wsl_5 _ (List.mem_of_getElem? (i := 6) rfl)) rfl dX7_readOne_94 rfl ?_
      refine r_dup dX7_readOne_97 (Nat.ne_of_beq_eq_false rfl) ?_
      refine r_get 6 1 (o := h a0 2) (w := (0, h (h a0 2) 1)) (T := TX6) (ref := "FollowingRefs$Sentence") rfl (by decide) rfl (by decide) inlX6 (wsl_67 _ (List.mem_of_getElem? (i := 19) rfl)) rfl dX7_readOne_98 rfl ?_
      refine r_iconst dX7_readOne_101 (by decide) ?_
      refine r_iadd dX7_readOne_102 ?_
      obtain ⟨h103, hg103, hr⟩ := bnd hr
      refine r_put' 6 1 (t := 0) (ref := "FollowingRefs$Sentence") hg103 rfl tyX6 tyX6_ok nmX6 rfl (by decide) rfl (by decide) inlX6 (wsl_67 _ (List.mem_of_getElem? (i := 19) rfl)) rfl rfl (by decide +kernel) (by decide) rfl (Or.inl ⟨rfl, rfl⟩) dX7_readOne_103 ?_
      refine r_aload_n dX7_readOne_106 rfl 0 rfl (nl rfl) ?_
      refine r_get 7 0 (o := a0) (w := (19, h103 a0 0)) (T := TX7) (ref := "FollowingRefs$SentenceReader") rfl (by decide) rfl (by decide) inlX7 (wsl_5 _ (List.mem_of_getElem? (i := 7) rfl)) rfl dX7_readOne_107 rfl ?_
      obtain ⟨h110, hg110, hr⟩ := bnd hr
      refine k_V (ci := 9) (o := h103 a0 0) (T := TX9) (as := []) (rest := []) (X := (none, h110)) (oX9_step hg110) gX9_step rfl (by decide) rfl (wsl_68 _ (List.mem_of_getElem? (i := 5) rfl)) (by refine hRR ?_ ?_ ?_ ?_ ?_ <;> first | exact nl rfl | (simp only [M_X7_readOne, M_X7_readAll, M_X7_readCond, M_X9_step]; omega)) dX7_readOne_110 rfl ?_
      refine r_iload_n dX7_readOne_113 rfl 2 rfl (Or.inl rfl) ?_
      by_cases hs0 : l2 = 4
      · have hr := ifp hr hs0
        refine r_lookup dX7_readOne_114 (by decide) (off := 150) (by rw [hs0]; rfl) (tgt := 264) (by decide) ?_
        refine r_aload_n dX7_readOne_264 rfl 0 rfl (nl rfl) ?_
        refine r_iload_n dX7_readOne_265 rfl 3 rfl (Or.inl rfl) ?_
        obtain ⟨q266, hg266, hr⟩ := bnd hr
        refine k_V (ci := 7) (o := a0) (T := TX7) (as := [(0, l3)]) (rest := []) (X := (some (2, q266.1), q266.2)) (oX7_readComparison hg266) gX7_readComparison rfl (by decide) rfl (wsl_68 _ (List.mem_of_getElem? (i := 8) rfl)) (by refine hRR ?_ ?_ ?_ ?_ ?_ <;> first | exact nl rfl | (simp only [M_X7_readOne, M_X7_readAll, M_X7_readCond, M_X7_readComparison]; omega)) dX7_readOne_266 rfl ?_
        obtain rfl := Option.some.inj hr
        exact r_ret dX7_readOne_269 rfl (Or.inr ⟨rfl, rfl⟩) (k0 _ hk) ⟨rfl, rfl⟩
      have hr := ifn hr hs0
      by_cases hs1 : l2 = 40
      · have hr := ifp hr hs1
        refine r_lookup dX7_readOne_114 (by decide) (off := 76) (by rw [hs1]; rfl) (tgt := 190) (by decide) ?_
        refine r_aload_n dX7_readOne_190 rfl 0 rfl (nl rfl) ?_
        refine r_iload_n dX7_readOne_191 rfl 1 rfl (Or.inl rfl) ?_
        refine r_iconst dX7_readOne_192 (by decide) ?_
        refine r_iadd dX7_readOne_193 ?_
        obtain ⟨q194, hg194, hr⟩ := bnd hr
        refine k_V (ci := 7) (o := a0) (T := TX7) (as := [(0, w32 (a1 + 1))]) (rest := []) (X := (some (2, q194.1), q194.2)) (oX7_readCond hone hg194) (gX7_readCond d) rfl (by decide) rfl (wsl_67 _ (List.mem_of_getElem? (i := 1) rfl)) (by refine hRR ?_ ?_ ?_ ?_ ?_ <;> first | exact nl rfl | (simp only [M_X7_readOne, M_X7_readAll, M_X7_readCond]; omega)) dX7_readOne_194 rfl ?_
        refine r_scast 0 (v := (2, q194.1)) (w := (0, q194.1)) rfl zc hTz (st' := [(0, q194.1)]) rfl ?_
        refine r_if_eq dX7_readOne_197 (tgt := 216) (by decide) (fun hc => ?_) (fun hc => ?_)
        · have hr := ifp hr hc
          refine r_iconst dX7_readOne_216 (by decide) ?_
          refine r_scast 0 (v := (0, 0)) (w := (2, 0)) rfl cz (fun _ => Or.inl rfl) (st' := [(2, 0)]) rfl ?_
          obtain rfl := Option.some.inj hr
          exact r_ret dX7_readOne_217 rfl (Or.inr ⟨rfl, rfl⟩) (k0 _ hk) ⟨rfl, rfl⟩
        · have hr := ifn hr hc
          refine r_aload_n dX7_readOne_200 rfl 0 rfl (nl rfl) ?_
          refine r_get 7 0 (o := a0) (w := (19, q194.2 a0 0)) (T := TX7) (ref := "FollowingRefs$SentenceReader") rfl (by decide) rfl (by decide) inlX7 (wsl_5 _ (List.mem_of_getElem? (i := 7) rfl)) rfl dX7_readOne_201 rfl ?_
          refine r_bipush dX7_readOne_204 (by decide) (by decide) ?_
          obtain ⟨q206, hg206, hr⟩ := bnd hr
          refine k_V (ci := 9) (o := q194.2 a0 0) (T := TX9) (as := [(0, 41)]) (rest := []) (X := (some (2, q206.1), q206.2)) (oX9_take hg206) gX9_take rfl (by decide) rfl (wsl_68 _ (List.mem_of_getElem? (i := 6) rfl)) (by refine hRR ?_ ?_ ?_ ?_ ?_ <;> first | exact nl rfl | (simp only [M_X7_readOne, M_X7_readAll, M_X7_readCond, M_X9_take]; omega)) dX7_readOne_206 rfl ?_
          refine r_scast 0 (v := (2, q206.1)) (w := (0, q206.1)) rfl zc hTz (st' := [(0, q206.1)]) rfl ?_
          refine r_if_eq dX7_readOne_209 (tgt := 216) (by decide) (fun hc => ?_) (fun hc => ?_)
          · have hr := ifp hr hc
            refine r_iconst dX7_readOne_216 (by decide) ?_
            refine r_scast 0 (v := (0, 0)) (w := (2, 0)) rfl cz (fun _ => Or.inl rfl) (st' := [(2, 0)]) rfl ?_
            obtain rfl := Option.some.inj hr
            exact r_ret dX7_readOne_217 rfl (Or.inr ⟨rfl, rfl⟩) (k0 _ hk) ⟨rfl, rfl⟩
          · have hr := ifn hr hc
            refine r_iconst dX7_readOne_212 (by decide) ?_
            refine r_goto dX7_readOne_213 (tgt := 217) (by decide) ?_
            refine r_scast 0 (v := (0, 1)) (w := (2, 1)) rfl cz (fun _ => Or.inr rfl) (st' := [(2, 1)]) rfl ?_
            obtain rfl := Option.some.inj hr
            exact r_ret dX7_readOne_217 rfl (Or.inr ⟨rfl, rfl⟩) (k0 _ hk) ⟨rfl, rfl⟩
      have hr := ifn hr hs1
      by_cases hs2 : l2 = 151
      · have hr := ifp hr hs2
        refine r_lookup dX7_readOne_114 (by decide) (off := 50) (by rw [hs2]; rfl) (tgt := 164) (by decide) ?_
        refine r_aload_n dX7_readOne_164 rfl 0 rfl (nl rfl) ?_
        refine r_iload_n dX7_readOne_165 rfl 1 rfl (Or.inl rfl) ?_
        refine r_iconst dX7_readOne_166 (by decide) ?_
        refine r_iadd dX7_readOne_167 ?_
        obtain ⟨q168, hg168, hr⟩ := bnd hr
        refine k_V (ci := 7) (o := a0) (T := TX7) (as := [(0, w32 (a1 + 1))]) (rest := []) (X := (some (2, q168.1), q168.2)) (hone hg168) (gX7_readOne d) rfl (by decide) rfl (wsl_67 _ (List.mem_of_getElem? (i := 14) rfl)) (by refine hRR ?_ ?_ ?_ ?_ ?_ <;> first | exact nl rfl | (simp only [M_X7_readOne, M_X7_readAll, M_X7_readCond]; omega)) dX7_readOne_168 rfl ?_
        refine r_scast 0 (v := (2, q168.1)) (w := (0, q168.1)) rfl zc hTz (st' := [(0, q168.1)]) rfl ?_
        refine r_if_ne dX7_readOne_171 (tgt := 176) (by decide) (fun hc => ?_) (fun hc => ?_)
        · have hr := ifn hr hc
          refine r_aload_n dX7_readOne_176 rfl 0 rfl (nl rfl) ?_
          refine r_get 7 2 (o := a0) (w := (16, q168.2 a0 2)) (T := TX7) (ref := "FollowingRefs$SentenceReader") rfl (by decide) rfl (by decide) inlX7 (wsl_5 _ (List.mem_of_getElem? (i := 6) rfl)) rfl dX7_readOne_177 rfl ?_
          refine r_sipush dX7_readOne_180 (by decide) (by decide) ?_
          refine r_iconst dX7_readOne_183 (by decide) ?_
          refine r_iconst dX7_readOne_184 (by decide) ?_
          obtain ⟨h185, hg185, hr⟩ := bnd hr
          refine k_V (ci := 6) (o := q168.2 a0 2) (T := TX6) (as := [(0, 151), (0, 0), (0, 0)]) (rest := []) (X := (none, h185)) (oX6_add hg185) gX6_add rfl (by decide) rfl (wsl_67 _ (List.mem_of_getElem? (i := 9) rfl)) (by refine hRR ?_ ?_ ?_ ?_ ?_ <;> first | exact nl rfl | (simp only [M_X7_readOne, M_X7_readAll, M_X7_readCond, M_X6_add]; omega)) dX7_readOne_185 rfl ?_
          refine r_iconst dX7_readOne_188 (by decide) ?_
          refine r_scast 0 (v := (0, 1)) (w := (2, 1)) rfl cz (fun _ => Or.inr rfl) (st' := [(2, 1)]) rfl ?_
          obtain rfl := Option.some.inj hr
          exact r_ret dX7_readOne_189 rfl (Or.inr ⟨rfl, rfl⟩) (k0 _ hk) ⟨rfl, rfl⟩
        · have hr := ifp hr hc
          refine r_iconst dX7_readOne_174 (by decide) ?_
          refine r_scast 0 (v := (0, 0)) (w := (2, 0)) rfl cz (fun _ => Or.inl rfl) (st' := [(2, 0)]) rfl ?_
          obtain rfl := Option.some.inj hr
          exact r_ret dX7_readOne_175 rfl (Or.inr ⟨rfl, rfl⟩) (k0 _ hk) ⟨rfl, rfl⟩
      have hr := ifn hr hs2
      by_cases hs3 : l2 = 155
      · have hr := ifp hr hs3
        refine r_lookup dX7_readOne_114 (by decide) (off := 104) (by rw [hs3]; rfl) (tgt := 218) (by decide) ?_
        refine r_aload_n dX7_readOne_218 rfl 0 rfl (nl rfl) ?_
        refine r_get 7 0 (o := a0) (w := (19, h110 a0 0)) (T := TX7) (ref := "FollowingRefs$SentenceReader") rfl (by decide) rfl (by decide) inlX7 (wsl_5 _ (List.mem_of_getElem? (i := 7) rfl)) rfl dX7_readOne_219 rfl ?_
        refine r_aload_n dX7_readOne_222 rfl 0 rfl (nl rfl) ?_
        refine r_get 7 1 (o := a0) (w := (14, h110 a0 1)) (T := TX7) (ref := "FollowingRefs$SentenceReader") rfl (by decide) rfl (by decide) inlX7 (wsl_5 _ (List.mem_of_getElem? (i := 8) rfl)) rfl dX7_readOne_223 rfl ?_
        obtain ⟨q226, hg226, hr⟩ := bnd hr
        refine k_V (ci := 9) (o := h110 a0 0) (T := TX9) (as := [(14, h110 a0 1)]) (rest := []) (X := (some (0, q226.1), q226.2)) (oX9_takeTable hg226) gX9_takeTable rfl (by decide) rfl (wsl_68 _ (List.mem_of_getElem? (i := 7) rfl)) (by refine hRR ?_ ?_ ?_ ?_ ?_ <;> first | exact nl rfl | (simp only [M_X7_readOne, M_X7_readAll, M_X7_readCond, M_X9_takeTable]; omega)) dX7_readOne_226 rfl ?_
        refine r_istore dX7_readOne_229 (Or.inl rfl) (nl rfl) (lv' := [(4, (0, q226.1)), (0, (17, a0)), (1, (0, a1)), (2, (0, l2)), (3, (0, l3))]) rfl ?_
        refine r_aload_n dX7_readOne_231 rfl 1 rfl (nl rfl) ?_
        refine r_get 7 2 (o := a0) (w := (16, q226.2 a0 2)) (T := TX7) (ref := "FollowingRefs$SentenceReader") rfl (by decide) rfl (by decide) inlX7 (wsl_5 _ (List.mem_of_getElem? (i := 6) rfl)) rfl dX7_readOne_232 rfl ?_
        refine r_sipush dX7_readOne_235 (by decide) (by decide) ?_
        refine r_iload dX7_readOne_238 0 rfl (Or.inl rfl) ?_
        refine r_iconst dX7_readOne_240 (by decide) ?_
        obtain ⟨h241, hg241, hr⟩ := bnd hr
        refine k_V (ci := 6) (o := q226.2 a0 2) (T := TX6) (as := [(0, 155), (0, q226.1), (0, 0)]) (rest := []) (X := (none, h241)) (oX6_add hg241) gX6_add rfl (by decide) rfl (wsl_67 _ (List.mem_of_getElem? (i := 9) rfl)) (by refine hRR ?_ ?_ ?_ ?_ ?_ <;> first | exact nl rfl | (simp only [M_X7_readOne, M_X7_readAll, M_X7_readCond, M_X6_add]; omega)) dX7_readOne_241 rfl ?_
        refine r_iload dX7_readOne_244 0 rfl (Or.inl rfl) ?_
        refine r_iconst dX7_readOne_246 (by decide) ?_
        refine r_icmp_eq dX7_readOne_247 (tgt := 254) (by decide) (fun hc => ?_) (fun hc => ?_)
        · have hr := ifp hr hc
          refine r_iconst dX7_readOne_254 (by decide) ?_
          refine r_scast 0 (v := (0, 0)) (w := (2, 0)) rfl cz (fun _ => Or.inl rfl) (st' := [(2, 0)]) rfl ?_
          obtain rfl := Option.some.inj hr
          exact r_ret dX7_readOne_255 rfl (Or.inr ⟨rfl, rfl⟩) (k0 _ hk) ⟨rfl, rfl⟩
        · have hr := ifn hr hc
          refine r_iconst dX7_readOne_250 (by decide) ?_
          refine r_goto dX7_readOne_251 (tgt := 255) (by decide) ?_
          refine r_scast 0 (v := (0, 1)) (w := (2, 1)) rfl cz (fun _ => Or.inr rfl) (st' := [(2, 1)]) rfl ?_
          obtain rfl := Option.some.inj hr
          exact r_ret dX7_readOne_255 rfl (Or.inr ⟨rfl, rfl⟩) (k0 _ hk) ⟨rfl, rfl⟩
      have hr := ifn hr hs3
      by_cases hs4 : l2 = 156
      · have hr := ifp hr hs4
        refine r_lookup dX7_readOne_114 (by decide) (off := 142) (by rw [hs4]; rfl) (tgt := 256) (by decide) ?_
        refine r_aload_n dX7_readOne_256 rfl 0 rfl (nl rfl) ?_
        refine r_sipush dX7_readOne_257 (by decide) (by decide) ?_
        obtain ⟨q260, hg260, hr⟩ := bnd hr
        refine k_V (ci := 7) (o := a0) (T := TX7) (as := [(0, 156)]) (rest := []) (X := (some (2, q260.1), q260.2)) (oX7_readComparison hg260) gX7_readComparison rfl (by decide) rfl (wsl_68 _ (List.mem_of_getElem? (i := 8) rfl)) (by refine hRR ?_ ?_ ?_ ?_ ?_ <;> first | exact nl rfl | (simp only [M_X7_readOne, M_X7_readAll, M_X7_readCond, M_X7_readComparison]; omega)) dX7_readOne_260 rfl ?_
        obtain rfl := Option.some.inj hr
        exact r_ret dX7_readOne_263 rfl (Or.inr ⟨rfl, rfl⟩) (k0 _ hk) ⟨rfl, rfl⟩
      have hr := ifn hr hs4
      refine r_lookup dX7_readOne_114 (by decide) (off := 156) (by simp [Op.lookupswitch.offset, Ne.symm hs0, Ne.symm hs1, Ne.symm hs2, Ne.symm hs3, Ne.symm hs4]) (tgt := 270) (by decide) ?_
      refine r_aload_n dX7_readOne_270 rfl 0 rfl (nl rfl) ?_
      refine r_get 7 2 (o := a0) (w := (16, h110 a0 2)) (T := TX7) (ref := "FollowingRefs$SentenceReader") rfl (by decide) rfl (by decide) inlX7 (wsl_5 _ (List.mem_of_getElem? (i := 6) rfl)) rfl dX7_readOne_271 rfl ?_
      refine r_iload_n dX7_readOne_274 rfl 2 rfl (Or.inl rfl) ?_
      refine r_iconst dX7_readOne_275 (by decide) ?_
      refine r_iconst dX7_readOne_276 (by decide) ?_
      obtain ⟨h277, hg277, hr⟩ := bnd hr
      refine k_V (ci := 6) (o := h110 a0 2) (T := TX6) (as := [(0, l2), (0, 0), (0, 0)]) (rest := []) (X := (none, h277)) (oX6_add hg277) gX6_add rfl (by decide) rfl (wsl_67 _ (List.mem_of_getElem? (i := 9) rfl)) (by refine hRR ?_ ?_ ?_ ?_ ?_ <;> first | exact nl rfl | (simp only [M_X7_readOne, M_X7_readAll, M_X7_readCond, M_X6_add]; omega)) dX7_readOne_277 rfl ?_
      refine r_iconst dX7_readOne_280 (by decide) ?_
      refine r_scast 0 (v := (0, 1)) (w := (2, 1)) rfl cz (fun _ => Or.inr rfl) (st' := [(2, 1)]) rfl ?_
      obtain rfl := Option.some.inj hr
      exact r_ret dX7_readOne_281 rfl (Or.inr ⟨rfl, rfl⟩) (k0 _ hk) ⟨rfl, rfl⟩
    · have hr := ifp hr hc
      refine r_sub [0] (lv' := [(0, (17, a0))]) rfl ?_
      exact oX7_readOne_b84 hone (K := K) (fun r z => k0 r z) hr hk
set_option maxRecDepth 100000 in
set_option maxHeartbeats 4000000 in
theorem oX7_readOne_b47 {one : hH → Int → Int → Option (Int × hH)} {d : Nat} (hone : ∀ {h : hH} {a0 a1 : Int} {r : Int × hH}, one h a0 a1 = some r → Ctr l D G true yX7_readOne (M_X7_readOne d) [(17, a0), (0, a1)] h (some (2, r.1), r.2)) {a0 a1 l2 s0 : Int} {K : Int × hH → Prop} (k0 : ∀ r, K (r) → x = (some (2, r.1), r.2)) {r : Int × hH} (hr : fX7_readOneG_b47 one h a0 a1 l2 s0 = some r) (hk : K r) : Wq p l e R s m args below meth c D G A H0 true n0 (M_X7_readOne (d + 1)) x 0 0 47 [(0, (17, a0)), (1, (0, a1)), (2, (0, l2))] [(0, s0)] h := by
  unfold fX7_readOneG_b47 at hr
  refine r_istore_n dX7_readOne_47 rfl (Or.inl rfl) (nl rfl) (lv' := [(3, (0, s0)), (0, (17, a0)), (1, (0, a1)), (2, (0, l2))]) rfl ?_
  refine r_iload_n dX7_readOne_48 rfl 3 rfl (Or.inl rfl) ?_
  refine r_iconst dX7_readOne_49 (by decide) ?_
  refine r_icmp_ne dX7_readOne_50 (tgt := 66) (by decide) (fun hc => ?_) (fun hc => ?_)
  · have hr := ifn hr hc
    refine r_sub [1, 2, 3, 0] (lv' := [(0, (17, a0)), (1, (0, a1)), (2, (0, l2)), (3, (0, s0))]) rfl ?_
    exact oX7_readOne_b66 hone (K := K) (fun r z => k0 r z) hr hk
  · have hr := ifp hr hc
    refine r_iload_n dX7_readOne_53 rfl 0 rfl (Or.inl rfl) ?_
    refine r_if_ne dX7_readOne_54 (tgt := 66) (by decide) (fun hc => ?_) (fun hc => ?_)
    · have hr := ifn hr hc
      refine r_sub [1, 2, 3, 0] (lv' := [(0, (17, a0)), (1, (0, a1)), (2, (0, l2)), (3, (0, s0))]) rfl ?_
      exact oX7_readOne_b66 hone (K := K) (fun r z => k0 r z) hr hk
    · have hr := ifp hr hc
      refine r_aload_n dX7_readOne_57 rfl 1 rfl (nl rfl) ?_
      refine r_get 7 0 (o := a0) (w := (19, h a0 0)) (T := TX7) (ref := "FollowingRefs$SentenceReader") rfl (by decide) rfl (by decide) inlX7 (wsl_5 _ (List.mem_of_getElem? (i := 7) rfl)) rfl dX7_readOne_58 rfl ?_
      refine r_iconst dX7_readOne_61 (by decide) ?_
      obtain ⟨q62, hg62, hr⟩ := bnd hr
      refine k_V (ci := 9) (o := h a0 0) (T := TX9) (as := [(0, 3)]) (rest := []) (X := (some (2, q62.1), q62.2)) (oX9_fail hg62) gX9_fail rfl (by decide) rfl (wsl_67 _ (List.mem_of_getElem? (i := 23) rfl)) (by refine hRR ?_ ?_ ?_ ?_ ?_ <;> first | exact nl rfl | (simp only [M_X7_readOne, M_X7_readAll, M_X7_readCond, M_X9_fail]; omega)) dX7_readOne_62 rfl ?_
      obtain rfl := Option.some.inj hr
      exact r_ret dX7_readOne_65 rfl (Or.inr ⟨rfl, rfl⟩) (k0 _ hk) ⟨rfl, rfl⟩
set_option maxRecDepth 100000 in
set_option maxHeartbeats 4000000 in
theorem oX7_readOne_b0 {one : hH → Int → Int → Option (Int × hH)} {d : Nat} (hone : ∀ {h : hH} {a0 a1 : Int} {r : Int × hH}, one h a0 a1 = some r → Ctr l D G true yX7_readOne (M_X7_readOne d) [(17, a0), (0, a1)] h (some (2, r.1), r.2)) {a0 a1 : Int} {K : Int × hH → Prop} (k0 : ∀ r, K (r) → x = (some (2, r.1), r.2)) {r : Int × hH} (hr : fX7_readOneG one h a0 a1 = some r) (hk : K r) : Wq p l e R s m args below meth c D G A H0 true n0 (M_X7_readOne (d + 1)) x 0 0 0 [(0, (17, a0)), (1, (0, a1))] [] h := by
  unfold fX7_readOneG at hr
  refine r_aload_n dX7_readOne_0 rfl 0 rfl (nl rfl) ?_
  refine r_get 7 0 (o := a0) (w := (19, h a0 0)) (T := TX7) (ref := "FollowingRefs$SentenceReader") rfl (by decide) rfl (by decide) inlX7 (wsl_5 _ (List.mem_of_getElem? (i := 7) rfl)) rfl dX7_readOne_1 rfl ?_
  refine r_get 9 5 (o := h a0 0) (w := (0, h (h a0 0) 5)) (T := TX9) (ref := "FollowingRefs$Text") rfl (by decide) rfl (by decide) inlX9 (wsl_66 _ (List.mem_of_getElem? (i := 22) rfl)) rfl dX7_readOne_4 rfl ?_
  refine r_istore_n dX7_readOne_7 rfl (Or.inl rfl) (nl rfl) (lv' := [(2, (0, h (h a0 0) 5)), (0, (17, a0)), (1, (0, a1))]) rfl ?_
  refine r_iload_n dX7_readOne_8 rfl 0 rfl (Or.inl rfl) ?_
  obtain ⟨r9, hg9, hr⟩ := bnd hr
  refine k_S (as := [(0, h (h a0 0) 5)]) (rest := []) (X := (some (2, r9), h)) (oX7_startsOne hg9) gX7_startsOne rfl (wsl_67 _ (List.mem_of_getElem? (i := 20) rfl)) (by refine hRR ?_ ?_ ?_ ?_ ?_ <;> first | exact nl rfl | (simp only [M_X7_readOne, M_X7_readAll, M_X7_readCond, M_X7_startsOne]; omega)) dX7_readOne_9 rfl ?_
  refine r_scast 0 (v := (2, r9)) (w := (0, r9)) rfl zc hTz (st' := [(0, r9)]) rfl ?_
  refine r_if_ne dX7_readOne_12 (tgt := 24) (by decide) (fun hc => ?_) (fun hc => ?_)
  · have hr := ifn hr hc
    refine r_iload_n dX7_readOne_24 rfl 0 rfl (Or.inl rfl) ?_
    refine r_iconst dX7_readOne_25 (by decide) ?_
    refine r_icmp_ne dX7_readOne_26 (tgt := 46) (by decide) (fun hc => ?_) (fun hc => ?_)
    · have hr := ifn hr hc
      refine r_iconst dX7_readOne_46 (by decide) ?_
      refine r_sub [1, 2, 0] (lv' := [(0, (17, a0)), (1, (0, a1)), (2, (0, h (h a0 0) 5))]) rfl ?_
      exact oX7_readOne_b47 hone (K := K) (fun r z => k0 r z) hr hk
    · have hr := ifp hr hc
      refine r_aload_n dX7_readOne_29 rfl 1 rfl (nl rfl) ?_
      refine r_get 7 1 (o := a0) (w := (14, h a0 1)) (T := TX7) (ref := "FollowingRefs$SentenceReader") rfl (by decide) rfl (by decide) inlX7 (wsl_5 _ (List.mem_of_getElem? (i := 8) rfl)) rfl dX7_readOne_30 rfl ?_
      refine r_aload_n dX7_readOne_33 rfl 1 rfl (nl rfl) ?_
      refine r_get 7 0 (o := a0) (w := (19, h a0 0)) (T := TX7) (ref := "FollowingRefs$SentenceReader") rfl (by decide) rfl (by decide) inlX7 (wsl_5 _ (List.mem_of_getElem? (i := 7) rfl)) rfl dX7_readOne_34 rfl ?_
      refine r_get 9 7 (o := h a0 0) (w := (1, h (h a0 0) 7)) (T := TX9) (ref := "FollowingRefs$Text") rfl (by decide) rfl (by decide) inlX9 (wsl_67 _ (List.mem_of_getElem? (i := 18) rfl)) rfl dX7_readOne_37 rfl ?_
      obtain ⟨r40, hg40, hr⟩ := bnd hr
      refine k_S (as := [(14, h a0 1), (1, h (h a0 0) 7)]) (rest := []) (X := (some (0, r40), h)) (oX6_colsNamed hg40) gX6_colsNamed rfl (wsl_68 _ (List.mem_of_getElem? (i := 0) rfl)) (by refine hRR ?_ ?_ ?_ ?_ ?_ <;> first | exact nl rfl | (simp only [M_X7_readOne, M_X7_readAll, M_X7_readCond, M_X6_colsNamed]; omega)) dX7_readOne_40 rfl ?_
      refine r_goto dX7_readOne_43 (tgt := 47) (by decide) ?_
      refine r_sub [1, 2, 0] (lv' := [(0, (17, a0)), (1, (0, a1)), (2, (0, h (h a0 0) 5))]) rfl ?_
      exact oX7_readOne_b47 hone (K := K) (fun r z => k0 r z) hr hk
  · have hr := ifp hr hc
    refine r_aload_n dX7_readOne_15 rfl 1 rfl (nl rfl) ?_
    refine r_get 7 0 (o := a0) (w := (19, h a0 0)) (T := TX7) (ref := "FollowingRefs$SentenceReader") rfl (by decide) rfl (by decide) inlX7 (wsl_5 _ (List.mem_of_getElem? (i := 7) rfl)) rfl dX7_readOne_16 rfl ?_
    refine r_iconst dX7_readOne_19 (by decide) ?_
    obtain ⟨q20, hg20, hr⟩ := bnd hr
    refine k_V (ci := 9) (o := h a0 0) (T := TX9) (as := [(0, 1)]) (rest := []) (X := (some (2, q20.1), q20.2)) (oX9_fail hg20) gX9_fail rfl (by decide) rfl (wsl_67 _ (List.mem_of_getElem? (i := 23) rfl)) (by refine hRR ?_ ?_ ?_ ?_ ?_ <;> first | exact nl rfl | (simp only [M_X7_readOne, M_X7_readAll, M_X7_readCond, M_X9_fail]; omega)) dX7_readOne_20 rfl ?_
    obtain rfl := Option.some.inj hr
    exact r_ret dX7_readOne_23 rfl (Or.inr ⟨rfl, rfl⟩) (k0 _ hk) ⟨rfl, rfl⟩
end M_X7_readOne
theorem oX7_readOneG {l : Launch} {D : va_G} {G : gG} {one : hH → Int → Int → Option (Int × hH)} {d : Nat} (hone : ∀ {h : hH} {a0 a1 : Int} {r : Int × hH}, one h a0 a1 = some r → Ctr l D G true yX7_readOne (M_X7_readOne d) [(17, a0), (0, a1)] h (some (2, r.1), r.2)) {h : hH} {a0 a1 : Int} {r : Int × hH} (hr : fX7_readOneG one h a0 a1 = some r) : Ctr l D G true yX7_readOne (M_X7_readOne (d + 1)) [(17, a0), (0, a1)] h (some (2, r.1), r.2) :=
  Ctr_of (by decide) rfl (fun z => by cases z) (nl rfl) (fun {p e R s m args below meth c A H0} => by
    exact oX7_readOne_b0 hone (K := fun z9 => z9 = r) (fun r9 z => by rw [z]) hr rfl)
noncomputable def fX7_readOne : Nat → hH → Int → Int → Option (Int × hH)
  | 0 => fun _ _ _ => none
  | d + 1 => fX7_readOneG (fX7_readOne d)
theorem oX7_readOne {l : Launch} {D : va_G} {G : gG} : ∀ (d : Nat) {h : hH} {a0 a1 : Int} {r : Int × hH}, fX7_readOne d h a0 a1 = some r → Ctr l D G true yX7_readOne (M_X7_readOne d) [(17, a0), (0, a1)] h (some (2, r.1), r.2)
  | 0, _, _, _, _, hr => by cases hr
  | d + 1, _, _, _, _, hr => oX7_readOneG (d := d) (fun hr9 => oX7_readOne d hr9) hr
/-! X7_readSentence -/
theorem dX7_readSentence_0 : decode cX7_readSentence 0 = .ok (.aload_n 0, 1) := by decide +kernel
theorem dX7_readSentence_1 : decode cX7_readSentence 1 = .ok (.getfield 12, 3) := by decide +kernel
theorem dX7_readSentence_4 : decode cX7_readSentence 4 = .ok (.invokevirtual 26, 3) := by decide +kernel
theorem dX7_readSentence_7 : decode cX7_readSentence 7 = .ok (.aload_n 0, 1) := by decide +kernel
theorem dX7_readSentence_8 : decode cX7_readSentence 8 = .ok (.getfield 12, 3) := by decide +kernel
theorem dX7_readSentence_11 : decode cX7_readSentence 11 = .ok (.iconst 1, 1) := by decide +kernel
theorem dX7_readSentence_12 : decode cX7_readSentence 12 = .ok (.putfield 29, 3) := by decide +kernel
theorem dX7_readSentence_15 : decode cX7_readSentence 15 = .ok (.aload_n 0, 1) := by decide +kernel
theorem dX7_readSentence_16 : decode cX7_readSentence 16 = .ok (.getfield 18, 3) := by decide +kernel
theorem dX7_readSentence_19 : decode cX7_readSentence 19 = .ok (.sipush 200, 3) := by decide +kernel
theorem dX7_readSentence_22 : decode cX7_readSentence 22 = .ok (.invokevirtual 33, 3) := by decide +kernel
theorem dX7_readSentence_25 : decode cX7_readSentence 25 = .ok (.aload_n 0, 1) := by decide +kernel
theorem dX7_readSentence_26 : decode cX7_readSentence 26 = .ok (.iconst 1, 1) := by decide +kernel
theorem dX7_readSentence_27 : decode cX7_readSentence 27 = .ok (.invokevirtual 39, 3) := by decide +kernel
theorem dX7_readSentence_30 : decode cX7_readSentence 30 = .ok (.ifCond .eq 28, 3) := by decide +kernel
theorem dX7_readSentence_33 : decode cX7_readSentence 33 = .ok (.aload_n 0, 1) := by decide +kernel
theorem dX7_readSentence_34 : decode cX7_readSentence 34 = .ok (.getfield 18, 3) := by decide +kernel
theorem dX7_readSentence_37 : decode cX7_readSentence 37 = .ok (.getfield 43, 3) := by decide +kernel
theorem dX7_readSentence_40 : decode cX7_readSentence 40 = .ok (.ifCond .eq 14, 3) := by decide +kernel
theorem dX7_readSentence_43 : decode cX7_readSentence 43 = .ok (.aload_n 0, 1) := by decide +kernel
theorem dX7_readSentence_44 : decode cX7_readSentence 44 = .ok (.getfield 18, 3) := by decide +kernel
theorem dX7_readSentence_47 : decode cX7_readSentence 47 = .ok (.iconst 1, 1) := by decide +kernel
theorem dX7_readSentence_48 : decode cX7_readSentence 48 = .ok (.invokevirtual 47, 3) := by decide +kernel
theorem dX7_readSentence_51 : decode cX7_readSentence 51 = .ok (.ifCond .eq 7, 3) := by decide +kernel
theorem dX7_readSentence_54 : decode cX7_readSentence 54 = .ok (.iconst 1, 1) := by decide +kernel
theorem dX7_readSentence_55 : decode cX7_readSentence 55 = .ok (.goto 4, 3) := by decide +kernel
theorem dX7_readSentence_58 : decode cX7_readSentence 58 = .ok (.iconst 0, 1) := by decide +kernel
theorem dX7_readSentence_59 : decode cX7_readSentence 59 = .ok (.ireturn, 1) := by decide +kernel
abbrev M_X7_readSentence : mM := (cX7_readSentence, 1, RX7, some .boolean, false, 53, 2083, 0, 0)
theorem gX7_readSentence : cI yX7_readSentence M_X7_readSentence 0 := ⟨(wsl_66 _ (List.mem_of_getElem? (i := 18) rfl)), (wsl_66 _ (List.mem_of_getElem? (i := 19) rfl)), (wsl_2 _ (List.mem_of_getElem? (i := 11) rfl)), (wsl_66 _ (List.mem_of_getElem? (i := 20) rfl)), by decide +kernel⟩
noncomputable def fX7_readSentence_b54 (h : hH) : Option (Int × hH) :=
  some (1, h)
noncomputable def fX7_readSentence (h : hH) (a0 : Int) : Option (Int × hH) :=
  (fX6_reset h (h a0 2)).bind fun h4 =>
  (pput h4 (h4 a0 2) 0 1).bind fun h12 =>
  (fX9_start h12 (h12 a0 0) 200).bind fun h22 =>
  (fX7_readCond (fX7_readOne 10) h22 a0 1).bind fun q27 =>
  if q27.1 = 0 then
    some (0, q27.2)
  else
    if q27.2 (q27.2 a0 0) 5 = 0 then
      fX7_readSentence_b54 q27.2
    else
      (fX9_fail q27.2 (q27.2 a0 0) 1).bind fun q48 =>
      if q48.1 = 0 then
        some (0, q48.2)
      else
        fX7_readSentence_b54 q48.2
section M_X7_readSentence
variable {p : Program} {l : Launch} {e : Env} {R : Room} {s : State} {m : MethodId} {args : Array Value} {below : List Frame} {meth : Method} {c : Code} {D : va_G} {G : gG} {A : Nat → Prop} {H0 : Heap} {n0 : Int} {x : Option vV × hH} {h : hH}
set_option maxRecDepth 100000 in
set_option maxHeartbeats 4000000 in
theorem oX7_readSentence_b54 {K : Int × hH → Prop} (k0 : ∀ r, K (r) → x = (some (2, r.1), r.2)) {r : Int × hH} (hr : fX7_readSentence_b54 h  = some r) (hk : K r) : Wq p l e R s m args below meth c D G A H0 true n0 M_X7_readSentence x 0 0 54 [] [] h := by
  unfold fX7_readSentence_b54 at hr
  refine r_iconst dX7_readSentence_54 (by decide) ?_
  refine r_goto dX7_readSentence_55 (tgt := 59) (by decide) ?_
  refine r_scast 0 (v := (0, 1)) (w := (2, 1)) rfl cz (fun _ => Or.inr rfl) (st' := [(2, 1)]) rfl ?_
  obtain rfl := Option.some.inj hr
  exact r_ret dX7_readSentence_59 rfl (Or.inr ⟨rfl, rfl⟩) (k0 _ hk) ⟨rfl, rfl⟩
set_option maxRecDepth 100000 in
set_option maxHeartbeats 4000000 in
theorem oX7_readSentence_b0 {a0 : Int} {K : Int × hH → Prop} (k0 : ∀ r, K (r) → x = (some (2, r.1), r.2)) {r : Int × hH} (hr : fX7_readSentence h a0 = some r) (hk : K r) : Wq p l e R s m args below meth c D G A H0 true n0 M_X7_readSentence x 0 0 0 [(0, (17, a0))] [] h := by
  unfold fX7_readSentence at hr
  refine r_aload_n dX7_readSentence_0 rfl 0 rfl (nl rfl) ?_
  refine r_get 7 2 (o := a0) (w := (16, h a0 2)) (T := TX7) (ref := "FollowingRefs$SentenceReader") rfl (by decide) rfl (by decide) inlX7 (wsl_5 _ (List.mem_of_getElem? (i := 6) rfl)) rfl dX7_readSentence_1 rfl ?_
  obtain ⟨h4, hg4, hr⟩ := bnd hr
  refine k_V (ci := 6) (o := h a0 2) (T := TX6) (as := []) (rest := []) (X := (none, h4)) (oX6_reset hg4) gX6_reset rfl (by decide) rfl (wsl_66 _ (List.mem_of_getElem? (i := 23) rfl)) rfl dX7_readSentence_4 rfl ?_
  refine r_aload_n dX7_readSentence_7 rfl 0 rfl (nl rfl) ?_
  refine r_get 7 2 (o := a0) (w := (16, h4 a0 2)) (T := TX7) (ref := "FollowingRefs$SentenceReader") rfl (by decide) rfl (by decide) inlX7 (wsl_5 _ (List.mem_of_getElem? (i := 6) rfl)) rfl dX7_readSentence_8 rfl ?_
  refine r_iconst dX7_readSentence_11 (by decide) ?_
  refine r_scast 0 (v := (0, 1)) (w := (2, 1)) rfl cz (fun _ => Or.inr rfl) (st' := [(2, 1), (16, h4 a0 2)]) rfl ?_
  obtain ⟨h12, hg12, hr⟩ := bnd hr
  refine r_put' 6 0 (t := 2) (ref := "FollowingRefs$Sentence") hg12 rfl tyX6 tyX6_ok nmX6 rfl (by decide) rfl (by decide) inlX6 (wsl_66 _ (List.mem_of_getElem? (i := 21) rfl)) rfl rfl (by decide +kernel) (by decide) rfl (Or.inr (Or.inr (Or.inl ⟨rfl, rfl⟩))) dX7_readSentence_12 ?_
  refine r_aload_n dX7_readSentence_15 rfl 0 rfl (nl rfl) ?_
  refine r_get 7 0 (o := a0) (w := (19, h12 a0 0)) (T := TX7) (ref := "FollowingRefs$SentenceReader") rfl (by decide) rfl (by decide) inlX7 (wsl_5 _ (List.mem_of_getElem? (i := 7) rfl)) rfl dX7_readSentence_16 rfl ?_
  refine r_sipush dX7_readSentence_19 (by decide) (by decide) ?_
  obtain ⟨h22, hg22, hr⟩ := bnd hr
  refine k_V (ci := 9) (o := h12 a0 0) (T := TX9) (as := [(0, 200)]) (rest := []) (X := (none, h22)) (oX9_start hg22) gX9_start rfl (by decide) rfl (wsl_67 _ (List.mem_of_getElem? (i := 0) rfl)) rfl dX7_readSentence_22 rfl ?_
  refine r_aload_n dX7_readSentence_25 rfl 0 rfl (nl rfl) ?_
  refine r_iconst dX7_readSentence_26 (by decide) ?_
  obtain ⟨q27, hg27, hr⟩ := bnd hr
  refine k_V (ci := 7) (o := a0) (T := TX7) (as := [(0, 1)]) (rest := []) (X := (some (2, q27.1), q27.2)) (oX7_readCond (fun hr9 => oX7_readOne 10 hr9) hg27) (gX7_readCond 10) rfl (by decide) rfl (wsl_67 _ (List.mem_of_getElem? (i := 1) rfl)) rfl dX7_readSentence_27 rfl ?_
  refine r_scast 0 (v := (2, q27.1)) (w := (0, q27.1)) rfl zc hTz (st' := [(0, q27.1)]) rfl ?_
  refine r_if_eq dX7_readSentence_30 (tgt := 58) (by decide) (fun hc => ?_) (fun hc => ?_)
  · have hr := ifp hr hc
    refine r_iconst dX7_readSentence_58 (by decide) ?_
    refine r_scast 0 (v := (0, 0)) (w := (2, 0)) rfl cz (fun _ => Or.inl rfl) (st' := [(2, 0)]) rfl ?_
    obtain rfl := Option.some.inj hr
    exact r_ret dX7_readSentence_59 rfl (Or.inr ⟨rfl, rfl⟩) (k0 _ hk) ⟨rfl, rfl⟩
  · have hr := ifn hr hc
    refine r_aload_n dX7_readSentence_33 rfl 0 rfl (nl rfl) ?_
    refine r_get 7 0 (o := a0) (w := (19, q27.2 a0 0)) (T := TX7) (ref := "FollowingRefs$SentenceReader") rfl (by decide) rfl (by decide) inlX7 (wsl_5 _ (List.mem_of_getElem? (i := 7) rfl)) rfl dX7_readSentence_34 rfl ?_
    refine r_get 9 5 (o := q27.2 a0 0) (w := (0, q27.2 (q27.2 a0 0) 5)) (T := TX9) (ref := "FollowingRefs$Text") rfl (by decide) rfl (by decide) inlX9 (wsl_66 _ (List.mem_of_getElem? (i := 22) rfl)) rfl dX7_readSentence_37 rfl ?_
    refine r_if_eq dX7_readSentence_40 (tgt := 54) (by decide) (fun hc => ?_) (fun hc => ?_)
    · have hr := ifp hr hc
      refine r_sub [] (lv' := []) rfl ?_
      exact oX7_readSentence_b54 (K := K) (fun r z => k0 r z) hr hk
    · have hr := ifn hr hc
      refine r_aload_n dX7_readSentence_43 rfl 0 rfl (nl rfl) ?_
      refine r_get 7 0 (o := a0) (w := (19, q27.2 a0 0)) (T := TX7) (ref := "FollowingRefs$SentenceReader") rfl (by decide) rfl (by decide) inlX7 (wsl_5 _ (List.mem_of_getElem? (i := 7) rfl)) rfl dX7_readSentence_44 rfl ?_
      refine r_iconst dX7_readSentence_47 (by decide) ?_
      obtain ⟨q48, hg48, hr⟩ := bnd hr
      refine k_V (ci := 9) (o := q27.2 a0 0) (T := TX9) (as := [(0, 1)]) (rest := []) (X := (some (2, q48.1), q48.2)) (oX9_fail hg48) gX9_fail rfl (by decide) rfl (wsl_67 _ (List.mem_of_getElem? (i := 23) rfl)) rfl dX7_readSentence_48 rfl ?_
      refine r_scast 0 (v := (2, q48.1)) (w := (0, q48.1)) rfl zc hTz (st' := [(0, q48.1)]) rfl ?_
      refine r_if_eq dX7_readSentence_51 (tgt := 58) (by decide) (fun hc => ?_) (fun hc => ?_)
      · have hr := ifp hr hc
        refine r_iconst dX7_readSentence_58 (by decide) ?_
        refine r_scast 0 (v := (0, 0)) (w := (2, 0)) rfl cz (fun _ => Or.inl rfl) (st' := [(2, 0)]) rfl ?_
        obtain rfl := Option.some.inj hr
        exact r_ret dX7_readSentence_59 rfl (Or.inr ⟨rfl, rfl⟩) (k0 _ hk) ⟨rfl, rfl⟩
      · have hr := ifn hr hc
        refine r_sub [] (lv' := []) rfl ?_
        exact oX7_readSentence_b54 (K := K) (fun r z => k0 r z) hr hk
end M_X7_readSentence
theorem oX7_readSentence {l : Launch} {D : va_G} {G : gG} {h : hH} {a0 : Int} {r : Int × hH} (hr : fX7_readSentence h a0 = some r) : Ctr l D G true yX7_readSentence M_X7_readSentence [(17, a0)] h (some (2, r.1), r.2) :=
  Ctr_of (by decide) rfl (fun z => by cases z) (nl rfl) (fun {p e R s m args below meth c A H0} => by
    exact oX7_readSentence_b0 (K := fun z9 => z9 = r) (fun r9 z => by rw [z]) hr rfl)
/-! X11_sentence -/
theorem dX11_sentence_0 : decode cX11_sentence 0 = .ok (.aload_n 0, 1) := by decide +kernel
theorem dX11_sentence_1 : decode cX11_sentence 1 = .ok (.getfield 51, 3) := by decide +kernel
theorem dX11_sentence_4 : decode cX11_sentence 4 = .ok (.invokevirtual 368, 3) := by decide +kernel
theorem dX11_sentence_7 : decode cX11_sentence 7 = .ok (.istore_n 1, 1) := by decide +kernel
theorem dX11_sentence_8 : decode cX11_sentence 8 = .ok (.aload_n 0, 1) := by decide +kernel
theorem dX11_sentence_9 : decode cX11_sentence 9 = .ok (.getfield 12, 3) := by decide +kernel
theorem dX11_sentence_12 : decode cX11_sentence 12 = .ok (.iconst 0, 1) := by decide +kernel
theorem dX11_sentence_13 : decode cX11_sentence 13 = .ok (.putfield 102, 3) := by decide +kernel
theorem dX11_sentence_16 : decode cX11_sentence 16 = .ok (.iload_n 1, 1) := by decide +kernel
theorem dX11_sentence_17 : decode cX11_sentence 17 = .ok (.ifCond .ne 13, 3) := by decide +kernel
theorem dX11_sentence_20 : decode cX11_sentence 20 = .ok (.iconst (-1), 1) := by decide +kernel
theorem dX11_sentence_21 : decode cX11_sentence 21 = .ok (.aload_n 0, 1) := by decide +kernel
theorem dX11_sentence_22 : decode cX11_sentence 22 = .ok (.getfield 12, 3) := by decide +kernel
theorem dX11_sentence_25 : decode cX11_sentence 25 = .ok (.getfield 114, 3) := by decide +kernel
theorem dX11_sentence_28 : decode cX11_sentence 28 = .ok (.isub, 1) := by decide +kernel
theorem dX11_sentence_29 : decode cX11_sentence 29 = .ok (.ireturn, 1) := by decide +kernel
theorem dX11_sentence_30 : decode cX11_sentence 30 = .ok (.aload_n 0, 1) := by decide +kernel
theorem dX11_sentence_31 : decode cX11_sentence 31 = .ok (.getfield 33, 3) := by decide +kernel
theorem dX11_sentence_34 : decode cX11_sentence 34 = .ok (.aload_n 0, 1) := by decide +kernel
theorem dX11_sentence_35 : decode cX11_sentence 35 = .ok (.getfield 51, 3) := by decide +kernel
theorem dX11_sentence_38 : decode cX11_sentence 38 = .ok (.getfield 371, 3) := by decide +kernel
theorem dX11_sentence_41 : decode cX11_sentence 41 = .ok (.invokevirtual 373, 3) := by decide +kernel
theorem dX11_sentence_44 : decode cX11_sentence 44 = .ok (.aload_n 0, 1) := by decide +kernel
theorem dX11_sentence_45 : decode cX11_sentence 45 = .ok (.getfield 33, 3) := by decide +kernel
theorem dX11_sentence_48 : decode cX11_sentence 48 = .ok (.getfield 376, 3) := by decide +kernel
theorem dX11_sentence_51 : decode cX11_sentence 51 = .ok (.ireturn, 1) := by decide +kernel
abbrev M_X11_sentence : mM := (cX11_sentence, 2, RX11, some .int, false, 54, 2103, 0, 0)
theorem gX11_sentence : cI yX11_sentence M_X11_sentence 0 := ⟨(wsl_66 _ (List.mem_of_getElem? (i := 12) rfl)), (wsl_66 _ (List.mem_of_getElem? (i := 13) rfl)), (wsl_1 _ (List.mem_of_getElem? (i := 2) rfl)), (wsl_66 _ (List.mem_of_getElem? (i := 14) rfl)), by decide +kernel⟩
noncomputable def fX11_sentence (h : hH) (a0 : Int) : Option (Int × hH) :=
  (fX7_readSentence h (h a0 5)).bind fun q4 =>
  (pput q4.2 (q4.2 a0 0) 1 0).bind fun h13 =>
  if q4.1 = 0 then
    some (w32 ((-1) - (h13 (h13 a0 0) 9)), h13)
  else
    (fX6_copyFrom h13 (h13 a0 3) (h13 (h13 a0 5) 2)).bind fun h41 =>
    some (h41 (h41 a0 3) 1, h41)
section M_X11_sentence
variable {p : Program} {l : Launch} {e : Env} {R : Room} {s : State} {m : MethodId} {args : Array Value} {below : List Frame} {meth : Method} {c : Code} {D : va_G} {G : gG} {A : Nat → Prop} {H0 : Heap} {n0 : Int} {x : Option vV × hH} {h : hH}
set_option maxRecDepth 100000 in
set_option maxHeartbeats 4000000 in
theorem oX11_sentence_b0 {a0 : Int} {K : Int × hH → Prop} (k0 : ∀ r, K (r) → x = (some (0, r.1), r.2)) {r : Int × hH} (hr : fX11_sentence h a0 = some r) (hk : K r) : Wq p l e R s m args below meth c D G A H0 true n0 M_X11_sentence x 0 0 0 [(0, (21, a0))] [] h := by
  unfold fX11_sentence at hr
  refine r_aload_n dX11_sentence_0 rfl 0 rfl (nl rfl) ?_
  refine r_get 11 5 (o := a0) (w := (17, h a0 5)) (T := TX11) (ref := "FollowingRefs") rfl (by decide) rfl (by decide) inlX11 (wsl_2 _ (List.mem_of_getElem? (i := 12) rfl)) rfl dX11_sentence_1 rfl ?_
  obtain ⟨q4, hg4, hr⟩ := bnd hr
  refine k_V (ci := 7) (o := h a0 5) (T := TX7) (as := []) (rest := []) (X := (some (2, q4.1), q4.2)) (oX7_readSentence hg4) gX7_readSentence rfl (by decide) rfl (wsl_66 _ (List.mem_of_getElem? (i := 17) rfl)) rfl dX11_sentence_4 rfl ?_
  refine r_istore_n dX11_sentence_7 rfl (Or.inr rfl) (by decide) (lv' := [(1, (2, q4.1)), (0, (21, a0))]) rfl ?_
  refine r_aload_n dX11_sentence_8 rfl 1 rfl (nl rfl) ?_
  refine r_get 11 0 (o := a0) (w := (19, q4.2 a0 0)) (T := TX11) (ref := "FollowingRefs") rfl (by decide) rfl (by decide) inlX11 (wsl_1 _ (List.mem_of_getElem? (i := 16) rfl)) rfl dX11_sentence_9 rfl ?_
  refine r_iconst dX11_sentence_12 (by decide) ?_
  obtain ⟨h13, hg13, hr⟩ := bnd hr
  refine r_put' 9 1 (t := 0) (ref := "FollowingRefs$Text") hg13 rfl tyX9 tyX9_ok nmX9 rfl (by decide) rfl (by decide) inlX9 (wsl_10 _ (List.mem_of_getElem? (i := 1) rfl)) rfl rfl (by decide +kernel) (by decide) rfl (Or.inl ⟨rfl, rfl⟩) dX11_sentence_13 ?_
  refine r_iload_n dX11_sentence_16 rfl 0 rfl (Or.inr rfl) ?_
  refine r_scast 0 (v := (2, q4.1)) (w := (0, q4.1)) rfl zc hTz (st' := [(0, q4.1)]) rfl ?_
  refine r_if_ne dX11_sentence_17 (tgt := 30) (by decide) (fun hc => ?_) (fun hc => ?_)
  · have hr := ifn hr hc
    refine r_aload_n dX11_sentence_30 rfl 1 rfl (nl rfl) ?_
    refine r_get 11 3 (o := a0) (w := (16, h13 a0 3)) (T := TX11) (ref := "FollowingRefs") rfl (by decide) rfl (by decide) inlX11 (wsl_2 _ (List.mem_of_getElem? (i := 4) rfl)) rfl dX11_sentence_31 rfl ?_
    refine r_aload_n dX11_sentence_34 rfl 1 rfl (nl rfl) ?_
    refine r_get 11 5 (o := a0) (w := (17, h13 a0 5)) (T := TX11) (ref := "FollowingRefs") rfl (by decide) rfl (by decide) inlX11 (wsl_2 _ (List.mem_of_getElem? (i := 12) rfl)) rfl dX11_sentence_35 rfl ?_
    refine r_get 7 2 (o := h13 a0 5) (w := (16, h13 (h13 a0 5) 2)) (T := TX7) (ref := "FollowingRefs$SentenceReader") rfl (by decide) rfl (by decide) inlX7 (wsl_66 _ (List.mem_of_getElem? (i := 15) rfl)) rfl dX11_sentence_38 rfl ?_
    obtain ⟨h41, hg41, hr⟩ := bnd hr
    refine k_V (ci := 6) (o := h13 a0 3) (T := TX6) (as := [(16, h13 (h13 a0 5) 2)]) (rest := []) (X := (none, h41)) (oX6_copyFrom hg41) gX6_copyFrom rfl (by decide) rfl (wsl_68 _ (List.mem_of_getElem? (i := 14) rfl)) rfl dX11_sentence_41 rfl ?_
    refine r_aload_n dX11_sentence_44 rfl 1 rfl (nl rfl) ?_
    refine r_get 11 3 (o := a0) (w := (16, h41 a0 3)) (T := TX11) (ref := "FollowingRefs") rfl (by decide) rfl (by decide) inlX11 (wsl_2 _ (List.mem_of_getElem? (i := 4) rfl)) rfl dX11_sentence_45 rfl ?_
    refine r_get 6 1 (o := h41 a0 3) (w := (0, h41 (h41 a0 3) 1)) (T := TX6) (ref := "FollowingRefs$Sentence") rfl (by decide) rfl (by decide) inlX6 (wsl_66 _ (List.mem_of_getElem? (i := 16) rfl)) rfl dX11_sentence_48 rfl ?_
    obtain rfl := Option.some.inj hr
    exact r_ret dX11_sentence_51 rfl (Or.inl ⟨rfl, rfl⟩) (k0 _ hk) ⟨rfl, rfl⟩
  · have hr := ifp hr hc
    refine r_iconst dX11_sentence_20 (by decide) ?_
    refine r_aload_n dX11_sentence_21 rfl 1 rfl (nl rfl) ?_
    refine r_get 11 0 (o := a0) (w := (19, h13 a0 0)) (T := TX11) (ref := "FollowingRefs") rfl (by decide) rfl (by decide) inlX11 (wsl_1 _ (List.mem_of_getElem? (i := 16) rfl)) rfl dX11_sentence_22 rfl ?_
    refine r_get 9 9 (o := h13 a0 0) (w := (0, h13 (h13 a0 0) 9)) (T := TX9) (ref := "FollowingRefs$Text") rfl (by decide) rfl (by decide) inlX9 (wsl_11 _ (List.mem_of_getElem? (i := 5) rfl)) rfl dX11_sentence_25 rfl ?_
    refine r_isub dX11_sentence_28 ?_
    obtain rfl := Option.some.inj hr
    exact r_ret dX11_sentence_29 rfl (Or.inl ⟨rfl, rfl⟩) (k0 _ hk) ⟨rfl, rfl⟩
end M_X11_sentence
theorem oX11_sentence {l : Launch} {D : va_G} {G : gG} {h : hH} {a0 : Int} {r : Int × hH} (hr : fX11_sentence h a0 = some r) : Ctr l D G true yX11_sentence M_X11_sentence [(21, a0)] h (some (0, r.1), r.2) :=
  Ctr_of (by decide) rfl (fun z => by cases z) (nl rfl) (fun {p e R s m args below meth c A H0} => by
    exact oX11_sentence_b0 (K := fun z9 => z9 = r) (fun r9 z => by rw [z]) hr rfl)
