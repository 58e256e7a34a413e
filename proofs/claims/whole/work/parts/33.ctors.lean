section FILLW
variable {p : Program} {l : Launch} {e : Env} {R : Room} {s : State} {m : MethodId} {args : Array Value} {below : List Frame} {meth : Method} {c : Code} {D : va_G} {G : gG} {A : Nat → Prop} {H0 : Heap} {n0 : Int} {x : Option vV × hH} {h : hH}
set_option maxRecDepth 100000 in
set_option maxHeartbeats 4000000 in
theorem oJ7_fill_53178W_s5 {h0 : hH} {a0 a1 l3 l2 : Int} {K : (hH × Int) ⊕ (hH) → Prop} (k0 : ∀ r, K (.inr (r)) → x = (none, r)) (k1 : ∀ (h : hH) (l2 : Int), K (.inl (h, l2)) → Wq p l e R s m args below meth c D G A H0 false n0 M_J7_fill_53178 x 0 0 5 [(0, (50, a0)), (1, (0, a1)), (2, (0, l2)), (3, (0, l3))] [] h) {r : (hH × Int) ⊕ (hH)} (hr : fJ7_fill_53178_s5 h0 a0 a1 l3 (h, l2) = some r) (hk : K r) : Wq p l e R s m args below meth c D G A H0 false n0 M_J7_fill_53178 x 0 0 5 [(0, (50, a0)), (1, (0, a1)), (2, (0, l2)), (3, (0, l3))] [] h := by
  unfold fJ7_fill_53178_s5 at hr
  refine r_iload_n dJ7_fill_53178_5 rfl 2 rfl (Or.inl rfl) ?_
  refine r_iload_n dJ7_fill_53178_6 rfl 3 rfl (Or.inl rfl) ?_
  refine r_icmp_ge dJ7_fill_53178_7 (tgt := 20) (by decide) (fun hc => ?_) (fun hc => ?_)
  · have hr := ifn hr hc
    obtain rfl := Option.some.inj hr
    exact r_vret dJ7_fill_53178_20 rfl (k0 _ hk) ⟨rfl, rfl⟩
  · have hr := ifp hr hc
    refine r_aload_n dJ7_fill_53178_10 rfl 0 rfl (nl rfl) ?_
    refine r_iload_n dJ7_fill_53178_11 rfl 2 rfl (Or.inl rfl) ?_
    refine r_iload_n dJ7_fill_53178_12 rfl 1 rfl (Or.inl rfl) ?_
    obtain ⟨h13, hg13, hr⟩ := bnd hr
    refine r_iast dJ7_fill_53178_13 hg13 ?_
    refine r_iinc (k := 2) (v := l2) dJ7_fill_53178_14 rfl (by decide) (lv' := [(2, (0, w32 (l2 + 1))), (0, (50, a0)), (1, (0, a1)), (3, (0, l3))]) rfl ?_
    refine r_goto dJ7_fill_53178_17 (tgt := 5) (by decide) ?_
    refine r_sub [1, 2, 0, 3] (lv' := [(0, (50, a0)), (1, (0, a1)), (2, (0, w32 (l2 + 1))), (3, (0, l3))]) rfl ?_
    obtain rfl := Option.some.inj hr
    exact k1 _ _ hk
set_option maxRecDepth 100000 in
set_option maxHeartbeats 4000000 in
theorem oJ7_fill_53178W_b0 {a0 a1 : Int} {K : hH → Prop} (k0 : ∀ r, K (r) → x = (none, r)) {r : hH} (hr : fJ7_fill_53178 h a0 a1 = some r) (hk : K r) : Wq p l e R s m args below meth c D G A H0 false n0 M_J7_fill_53178 x 0 0 0 [(0, (50, a0)), (1, (0, a1))] [] h := by
  unfold fJ7_fill_53178 at hr
  refine r_iconst dJ7_fill_53178_0 (by decide) ?_
  refine r_istore_n dJ7_fill_53178_1 rfl (Or.inl rfl) (by decide) (lv' := [(2, (0, 0)), (0, (50, a0)), (1, (0, a1))]) rfl ?_
  refine r_aload_n dJ7_fill_53178_2 rfl 1 rfl (nl rfl) ?_
  refine r_alen (t := 50) (by decide) (by decide) dJ7_fill_53178_3 ?_
  refine r_istore_n dJ7_fill_53178_4 rfl (Or.inl rfl) (by decide) (lv' := [(3, (0, h a0 (-1))), (2, (0, 0)), (0, (50, a0)), (1, (0, a1))]) rfl ?_
  refine r_sub [2, 3, 1, 0] (lv' := [(0, (50, a0)), (1, (0, a1)), (2, (0, 0)), (3, (0, h a0 (-1)))]) rfl ?_
  exact lp_ok (w := fun (q : hH × Int) => Wq p l e R s m args below meth c D G A H0 false n0 M_J7_fill_53178 x 0 0 5 [(0, (50, a0)), (1, (0, a1)), (2, (0, q.2)), (3, (0, h a0 (-1)))] [] (q.1)) (K := K) (fun ⟨q0, q1⟩ r h1 h2 => oJ7_fill_53178W_s5 (K := Sum.elim (fun (q : hH × Int) => Wq p l e R s m args below meth c D G A H0 false n0 M_J7_fill_53178 x 0 0 5 [(0, (50, a0)), (1, (0, a1)), (2, (0, q.2)), (3, (0, h a0 (-1)))] [] (q.1)) (K)) (fun r z => k0 r z) (fun _ _ z => z) h1 h2) hr hk
end FILLW
theorem oJ7_fill_53178W {l : Launch} {D : va_G} {G : gG} {h : hH} {a0 a1 : Int} {r : hH} (hr : fJ7_fill_53178 h a0 a1 = some r) : Ctr l D G false yJ7_fill_53178 M_J7_fill_53178 [(50, a0), (0, a1)] h (none, r) :=
  Ctr_of (by decide) rfl (fun z => by cases z) (nl rfl) (fun {p e R s m args below meth c A H0} => by
    exact oJ7_fill_53178W_b0 (K := fun z9 => z9 = r) (fun r9 z => by rw [z]) hr rfl)
/-! X3_init -/
theorem dX3_init_0 : decode cX3_init 0 = .ok (.aload_n 0, 1) := by decide +kernel
theorem dX3_init_1 : decode cX3_init 1 = .ok (.invokespecial 3, 3) := by decide +kernel
theorem dX3_init_4 : decode cX3_init 4 = .ok (.aload_n 0, 1) := by decide +kernel
theorem dX3_init_5 : decode cX3_init 5 = .ok (.bipush 40, 2) := by decide +kernel
theorem dX3_init_7 : decode cX3_init 7 = .ok (.newarray .int, 2) := by decide +kernel
theorem dX3_init_9 : decode cX3_init 9 = .ok (.putfield 9, 3) := by decide +kernel
theorem dX3_init_12 : decode cX3_init 12 = .ok (.aload_n 0, 1) := by decide +kernel
theorem dX3_init_13 : decode cX3_init 13 = .ok (.bipush 40, 2) := by decide +kernel
theorem dX3_init_15 : decode cX3_init 15 = .ok (.newarray .int, 2) := by decide +kernel
theorem dX3_init_17 : decode cX3_init 17 = .ok (.putfield 15, 3) := by decide +kernel
theorem dX3_init_20 : decode cX3_init 20 = .ok (.aload_n 0, 1) := by decide +kernel
theorem dX3_init_21 : decode cX3_init 21 = .ok (.sipush 160, 3) := by decide +kernel
theorem dX3_init_24 : decode cX3_init 24 = .ok (.newarray .int, 2) := by decide +kernel
theorem dX3_init_26 : decode cX3_init 26 = .ok (.putfield 18, 3) := by decide +kernel
theorem dX3_init_29 : decode cX3_init 29 = .ok (.return_, 1) := by decide +kernel
abbrev M_X3_init : mM := (cX3_init, 1, RX3, none, true, 1, 30, 3, 240)
theorem gX3_init : cN yX3_init M_X3_init 0 := ⟨(wsl_4 _ (List.mem_of_getElem? (i := 8) rfl)), (wsl_4 _ (List.mem_of_getElem? (i := 5) rfl)), (wsl_4 _ (List.mem_of_getElem? (i := 9) rfl)), rfl, rfl, by decide +kernel⟩
noncomputable def fX3_init (n : Int) (h : hH) (a0 : Int) : Option hH :=
  (alc h (n) 50 40).bind fun h7_5 =>
  (pput h7_5 a0 2 n).bind fun h9_6 =>
  (alc h9_6 (n + 1) 50 40).bind fun h15_9 =>
  (pput h15_9 a0 3 (n + 1)).bind fun h17_10 =>
  (alc h17_10 (n + 2) 50 160).bind fun h24_13 =>
  (pput h24_13 a0 4 (n + 2)).bind fun h26_14 =>
  some h26_14
set_option maxRecDepth 100000 in
set_option maxHeartbeats 8000000 in
theorem oX3_init_w {p : Program} {l : Launch} {e : Env} {R : Room} {s : State} {m : MethodId} {args : Array Value} {below : List Frame} {meth : Method} {c : Code} {D : va_G} {G : gG} {A : Nat → Prop} {H0 : Heap} {G0 : gG} {n0 : Int} {n : Int} {h r : hH} {a0 : Int} (hr : fX3_init n h a0 = some r) : Wc p l e R s m args below meth c D G G0 A H0 false n0 M_X3_init (none, r) 0 0 0 [(0, (13, a0))] [] h := by
  unfold fX3_init at hr
  refine c_aload_n dX3_init_0 rfl 0 rfl (nl rfl) ?_
  refine c_objInit (t := 13) (by decide) (by decide) dX3_init_1 (wsl_4 _ (List.mem_of_getElem? (i := 10) rfl)) (wsl_1 _ (List.mem_of_getElem? (i := 11) rfl)) (wsl_1 _ (List.mem_of_getElem? (i := 12) rfl)) ⟨nl rfl, nl rfl⟩ ?_
  refine c_aload_n dX3_init_4 rfl 0 rfl (nl rfl) ?_
  refine c_bipush dX3_init_5 (by decide) (by decide) ?_
  obtain ⟨h7_5, hg7_5, hr⟩ := bnd hr
  refine c_newa dX3_init_7 hg7_5 (wsl_3 _ (List.mem_of_getElem? (i := 2) rfl)) (Or.inl ⟨rfl, rfl⟩) ⟨nl rfl, nl rfl⟩ (fun G => ?_)
  obtain ⟨h9_6, hg9_6, hr⟩ := bnd hr
  refine c_putF 3 2 (t := 50) (ty := (.array .int)) (ref := "FollowingRefs$Rows") hg9_6 rfl tyX3 tyX3_ok nmX3 rfl (by decide) rfl (by decide) inlX3 (wsl_4 _ (List.mem_of_getElem? (i := 11) rfl)) rfl rfl rfl rfl (by decide +kernel) (by decide) rfl (Or.inr (Or.inr (Or.inr ⟨by decide, Or.inr ⟨_, rfl⟩⟩))) dX3_init_9 ?_
  refine c_aload_n dX3_init_12 rfl 0 rfl (nl rfl) ?_
  refine c_bipush dX3_init_13 (by decide) (by decide) ?_
  obtain ⟨h15_9, hg15_9, hr⟩ := bnd hr
  refine c_newa dX3_init_15 hg15_9 (wsl_3 _ (List.mem_of_getElem? (i := 2) rfl)) (Or.inl ⟨rfl, rfl⟩) ⟨nl rfl, nl rfl⟩ (fun G => ?_)
  obtain ⟨h17_10, hg17_10, hr⟩ := bnd hr
  refine c_putF 3 3 (t := 50) (ty := (.array .int)) (ref := "FollowingRefs$Rows") hg17_10 rfl tyX3 tyX3_ok nmX3 rfl (by decide) rfl (by decide) inlX3 (wsl_4 _ (List.mem_of_getElem? (i := 12) rfl)) rfl rfl rfl rfl (by decide +kernel) (by decide) rfl (Or.inr (Or.inr (Or.inr ⟨by decide, Or.inr ⟨_, rfl⟩⟩))) dX3_init_17 ?_
  refine c_aload_n dX3_init_20 rfl 0 rfl (nl rfl) ?_
  refine c_sipush dX3_init_21 (by decide) (by decide) ?_
  obtain ⟨h24_13, hg24_13, hr⟩ := bnd hr
  refine c_newa dX3_init_24 hg24_13 (wsl_3 _ (List.mem_of_getElem? (i := 2) rfl)) (Or.inl ⟨rfl, rfl⟩) ⟨nl rfl, nl rfl⟩ (fun G => ?_)
  obtain ⟨h26_14, hg26_14, hr⟩ := bnd hr
  refine c_putF 3 4 (t := 50) (ty := (.array .int)) (ref := "FollowingRefs$Rows") hg26_14 rfl tyX3 tyX3_ok nmX3 rfl (by decide) rfl (by decide) inlX3 (wsl_4 _ (List.mem_of_getElem? (i := 13) rfl)) rfl rfl rfl rfl (by decide +kernel) (by decide) rfl (Or.inr (Or.inr (Or.inr ⟨by decide, Or.inr ⟨_, rfl⟩⟩))) dX3_init_26 ?_
  obtain rfl := Option.some.inj hr
  exact c_vret dX3_init_29 rfl rfl ⟨rfl, rfl⟩
theorem oX3_init {l : Launch} {D : va_G} {n : Int} {h r : hH} {a0 : Int} (hr : fX3_init n h a0 = some r) : Ctc l D yX3_init M_X3_init [(13, a0)] h (none, r) := Ctc_of (by decide) rfl (fun _ => rfl) (nl rfl) (fun {p e R s m args below meth c G A H0} => oX3_init_w hr)
/-! X4_init -/
theorem dX4_init_0 : decode cX4_init 0 = .ok (.aload_n 0, 1) := by decide +kernel
theorem dX4_init_1 : decode cX4_init 1 = .ok (.invokespecial 3, 3) := by decide +kernel
theorem dX4_init_4 : decode cX4_init 4 = .ok (.aload_n 0, 1) := by decide +kernel
theorem dX4_init_5 : decode cX4_init 5 = .ok (.iconst 4, 1) := by decide +kernel
theorem dX4_init_6 : decode cX4_init 6 = .ok (.newarray .long, 2) := by decide +kernel
theorem dX4_init_8 : decode cX4_init 8 = .ok (.putfield 9, 3) := by decide +kernel
theorem dX4_init_11 : decode cX4_init 11 = .ok (.aload_n 0, 1) := by decide +kernel
theorem dX4_init_12 : decode cX4_init 12 = .ok (.iconst 4, 1) := by decide +kernel
theorem dX4_init_13 : decode cX4_init 13 = .ok (.newarray .int, 2) := by decide +kernel
theorem dX4_init_15 : decode cX4_init 15 = .ok (.putfield 15, 3) := by decide +kernel
theorem dX4_init_18 : decode cX4_init 18 = .ok (.aload_n 0, 1) := by decide +kernel
theorem dX4_init_19 : decode cX4_init 19 = .ok (.bipush 16, 2) := by decide +kernel
theorem dX4_init_21 : decode cX4_init 21 = .ok (.newarray .long, 2) := by decide +kernel
theorem dX4_init_23 : decode cX4_init 23 = .ok (.putfield 19, 3) := by decide +kernel
theorem dX4_init_26 : decode cX4_init 26 = .ok (.aload_n 0, 1) := by decide +kernel
theorem dX4_init_27 : decode cX4_init 27 = .ok (.bipush 16, 2) := by decide +kernel
theorem dX4_init_29 : decode cX4_init 29 = .ok (.newarray .int, 2) := by decide +kernel
theorem dX4_init_31 : decode cX4_init 31 = .ok (.putfield 22, 3) := by decide +kernel
theorem dX4_init_34 : decode cX4_init 34 = .ok (.aload_n 0, 1) := by decide +kernel
theorem dX4_init_35 : decode cX4_init 35 = .ok (.bipush 16, 2) := by decide +kernel
theorem dX4_init_37 : decode cX4_init 37 = .ok (.newarray .int, 2) := by decide +kernel
theorem dX4_init_39 : decode cX4_init 39 = .ok (.putfield 25, 3) := by decide +kernel
theorem dX4_init_42 : decode cX4_init 42 = .ok (.aload_n 0, 1) := by decide +kernel
theorem dX4_init_43 : decode cX4_init 43 = .ok (.bipush 18, 2) := by decide +kernel
theorem dX4_init_45 : decode cX4_init 45 = .ok (.newarray .int, 2) := by decide +kernel
theorem dX4_init_47 : decode cX4_init 47 = .ok (.putfield 28, 3) := by decide +kernel
theorem dX4_init_50 : decode cX4_init 50 = .ok (.aload_n 0, 1) := by decide +kernel
theorem dX4_init_51 : decode cX4_init 51 = .ok (.bipush 54, 2) := by decide +kernel
theorem dX4_init_53 : decode cX4_init 53 = .ok (.newarray .int, 2) := by decide +kernel
theorem dX4_init_55 : decode cX4_init 55 = .ok (.putfield 31, 3) := by decide +kernel
theorem dX4_init_58 : decode cX4_init 58 = .ok (.aload_n 0, 1) := by decide +kernel
theorem dX4_init_59 : decode cX4_init 59 = .ok (.bipush 36, 2) := by decide +kernel
theorem dX4_init_61 : decode cX4_init 61 = .ok (.newarray .int, 2) := by decide +kernel
theorem dX4_init_63 : decode cX4_init 63 = .ok (.putfield 34, 3) := by decide +kernel
theorem dX4_init_66 : decode cX4_init 66 = .ok (.return_, 1) := by decide +kernel
abbrev M_X4_init : mM := (cX4_init, 1, RX4, none, true, 1, 30, 8, 164)
theorem gX4_init : cN yX4_init M_X4_init 0 := ⟨(wsl_3 _ (List.mem_of_getElem? (i := 13) rfl)), (wsl_1 _ (List.mem_of_getElem? (i := 19) rfl)), (wsl_3 _ (List.mem_of_getElem? (i := 14) rfl)), rfl, rfl, by decide +kernel⟩
noncomputable def fX4_init (n : Int) (h : hH) (a0 : Int) : Option hH :=
  (alc h (n) 51 4).bind fun h6_5 =>
  (pput h6_5 a0 4 n).bind fun h8_6 =>
  (alc h8_6 (n + 1) 50 4).bind fun h13_9 =>
  (pput h13_9 a0 5 (n + 1)).bind fun h15_10 =>
  (alc h15_10 (n + 2) 51 16).bind fun h21_13 =>
  (pput h21_13 a0 6 (n + 2)).bind fun h23_14 =>
  (alc h23_14 (n + 3) 50 16).bind fun h29_17 =>
  (pput h29_17 a0 7 (n + 3)).bind fun h31_18 =>
  (alc h31_18 (n + 4) 50 16).bind fun h37_21 =>
  (pput h37_21 a0 8 (n + 4)).bind fun h39_22 =>
  (alc h39_22 (n + 5) 50 18).bind fun h45_25 =>
  (pput h45_25 a0 9 (n + 5)).bind fun h47_26 =>
  (alc h47_26 (n + 6) 50 54).bind fun h53_29 =>
  (pput h53_29 a0 10 (n + 6)).bind fun h55_30 =>
  (alc h55_30 (n + 7) 50 36).bind fun h61_33 =>
  (pput h61_33 a0 11 (n + 7)).bind fun h63_34 =>
  some h63_34
set_option maxRecDepth 100000 in
set_option maxHeartbeats 8000000 in
theorem oX4_init_w {p : Program} {l : Launch} {e : Env} {R : Room} {s : State} {m : MethodId} {args : Array Value} {below : List Frame} {meth : Method} {c : Code} {D : va_G} {G : gG} {A : Nat → Prop} {H0 : Heap} {G0 : gG} {n0 : Int} {n : Int} {h r : hH} {a0 : Int} (hr : fX4_init n h a0 = some r) : Wc p l e R s m args below meth c D G G0 A H0 false n0 M_X4_init (none, r) 0 0 0 [(0, (14, a0))] [] h := by
  unfold fX4_init at hr
  refine c_aload_n dX4_init_0 rfl 0 rfl (nl rfl) ?_
  refine c_objInit (t := 14) (by decide) (by decide) dX4_init_1 (wsl_3 _ (List.mem_of_getElem? (i := 15) rfl)) (wsl_1 _ (List.mem_of_getElem? (i := 11) rfl)) (wsl_1 _ (List.mem_of_getElem? (i := 12) rfl)) ⟨nl rfl, nl rfl⟩ ?_
  refine c_aload_n dX4_init_4 rfl 0 rfl (nl rfl) ?_
  refine c_iconst dX4_init_5 (by decide) ?_
  obtain ⟨h6_5, hg6_5, hr⟩ := bnd hr
  refine c_newa dX4_init_6 hg6_5 (wsl_1 _ (List.mem_of_getElem? (i := 6) rfl)) (Or.inr (Or.inl ⟨rfl, rfl⟩)) ⟨nl rfl, nl rfl⟩ (fun G => ?_)
  obtain ⟨h8_6, hg8_6, hr⟩ := bnd hr
  refine c_putF 4 4 (t := 51) (ty := (.array .long)) (ref := "FollowingRefs$Schema") hg8_6 rfl tyX4 tyX4_ok nmX4 rfl (by decide) rfl (by decide) inlX4 (wsl_3 _ (List.mem_of_getElem? (i := 16) rfl)) rfl rfl rfl rfl (by decide +kernel) (by decide) rfl (Or.inr (Or.inr (Or.inr ⟨by decide, Or.inr ⟨_, rfl⟩⟩))) dX4_init_8 ?_
  refine c_aload_n dX4_init_11 rfl 0 rfl (nl rfl) ?_
  refine c_iconst dX4_init_12 (by decide) ?_
  obtain ⟨h13_9, hg13_9, hr⟩ := bnd hr
  refine c_newa dX4_init_13 hg13_9 (wsl_3 _ (List.mem_of_getElem? (i := 2) rfl)) (Or.inl ⟨rfl, rfl⟩) ⟨nl rfl, nl rfl⟩ (fun G => ?_)
  obtain ⟨h15_10, hg15_10, hr⟩ := bnd hr
  refine c_putF 4 5 (t := 50) (ty := (.array .int)) (ref := "FollowingRefs$Schema") hg15_10 rfl tyX4 tyX4_ok nmX4 rfl (by decide) rfl (by decide) inlX4 (wsl_3 _ (List.mem_of_getElem? (i := 17) rfl)) rfl rfl rfl rfl (by decide +kernel) (by decide) rfl (Or.inr (Or.inr (Or.inr ⟨by decide, Or.inr ⟨_, rfl⟩⟩))) dX4_init_15 ?_
  refine c_aload_n dX4_init_18 rfl 0 rfl (nl rfl) ?_
  refine c_bipush dX4_init_19 (by decide) (by decide) ?_
  obtain ⟨h21_13, hg21_13, hr⟩ := bnd hr
  refine c_newa dX4_init_21 hg21_13 (wsl_1 _ (List.mem_of_getElem? (i := 6) rfl)) (Or.inr (Or.inl ⟨rfl, rfl⟩)) ⟨nl rfl, nl rfl⟩ (fun G => ?_)
  obtain ⟨h23_14, hg23_14, hr⟩ := bnd hr
  refine c_putF 4 6 (t := 51) (ty := (.array .long)) (ref := "FollowingRefs$Schema") hg23_14 rfl tyX4 tyX4_ok nmX4 rfl (by decide) rfl (by decide) inlX4 (wsl_3 _ (List.mem_of_getElem? (i := 18) rfl)) rfl rfl rfl rfl (by decide +kernel) (by decide) rfl (Or.inr (Or.inr (Or.inr ⟨by decide, Or.inr ⟨_, rfl⟩⟩))) dX4_init_23 ?_
  refine c_aload_n dX4_init_26 rfl 0 rfl (nl rfl) ?_
  refine c_bipush dX4_init_27 (by decide) (by decide) ?_
  obtain ⟨h29_17, hg29_17, hr⟩ := bnd hr
  refine c_newa dX4_init_29 hg29_17 (wsl_3 _ (List.mem_of_getElem? (i := 2) rfl)) (Or.inl ⟨rfl, rfl⟩) ⟨nl rfl, nl rfl⟩ (fun G => ?_)
  obtain ⟨h31_18, hg31_18, hr⟩ := bnd hr
  refine c_putF 4 7 (t := 50) (ty := (.array .int)) (ref := "FollowingRefs$Schema") hg31_18 rfl tyX4 tyX4_ok nmX4 rfl (by decide) rfl (by decide) inlX4 (wsl_3 _ (List.mem_of_getElem? (i := 19) rfl)) rfl rfl rfl rfl (by decide +kernel) (by decide) rfl (Or.inr (Or.inr (Or.inr ⟨by decide, Or.inr ⟨_, rfl⟩⟩))) dX4_init_31 ?_
  refine c_aload_n dX4_init_34 rfl 0 rfl (nl rfl) ?_
  refine c_bipush dX4_init_35 (by decide) (by decide) ?_
  obtain ⟨h37_21, hg37_21, hr⟩ := bnd hr
  refine c_newa dX4_init_37 hg37_21 (wsl_3 _ (List.mem_of_getElem? (i := 2) rfl)) (Or.inl ⟨rfl, rfl⟩) ⟨nl rfl, nl rfl⟩ (fun G => ?_)
  obtain ⟨h39_22, hg39_22, hr⟩ := bnd hr
  refine c_putF 4 8 (t := 50) (ty := (.array .int)) (ref := "FollowingRefs$Schema") hg39_22 rfl tyX4 tyX4_ok nmX4 rfl (by decide) rfl (by decide) inlX4 (wsl_3 _ (List.mem_of_getElem? (i := 20) rfl)) rfl rfl rfl rfl (by decide +kernel) (by decide) rfl (Or.inr (Or.inr (Or.inr ⟨by decide, Or.inr ⟨_, rfl⟩⟩))) dX4_init_39 ?_
  refine c_aload_n dX4_init_42 rfl 0 rfl (nl rfl) ?_
  refine c_bipush dX4_init_43 (by decide) (by decide) ?_
  obtain ⟨h45_25, hg45_25, hr⟩ := bnd hr
  refine c_newa dX4_init_45 hg45_25 (wsl_3 _ (List.mem_of_getElem? (i := 2) rfl)) (Or.inl ⟨rfl, rfl⟩) ⟨nl rfl, nl rfl⟩ (fun G => ?_)
  obtain ⟨h47_26, hg47_26, hr⟩ := bnd hr
  refine c_putF 4 9 (t := 50) (ty := (.array .int)) (ref := "FollowingRefs$Schema") hg47_26 rfl tyX4 tyX4_ok nmX4 rfl (by decide) rfl (by decide) inlX4 (wsl_3 _ (List.mem_of_getElem? (i := 21) rfl)) rfl rfl rfl rfl (by decide +kernel) (by decide) rfl (Or.inr (Or.inr (Or.inr ⟨by decide, Or.inr ⟨_, rfl⟩⟩))) dX4_init_47 ?_
  refine c_aload_n dX4_init_50 rfl 0 rfl (nl rfl) ?_
  refine c_bipush dX4_init_51 (by decide) (by decide) ?_
  obtain ⟨h53_29, hg53_29, hr⟩ := bnd hr
  refine c_newa dX4_init_53 hg53_29 (wsl_3 _ (List.mem_of_getElem? (i := 2) rfl)) (Or.inl ⟨rfl, rfl⟩) ⟨nl rfl, nl rfl⟩ (fun G => ?_)
  obtain ⟨h55_30, hg55_30, hr⟩ := bnd hr
  refine c_putF 4 10 (t := 50) (ty := (.array .int)) (ref := "FollowingRefs$Schema") hg55_30 rfl tyX4 tyX4_ok nmX4 rfl (by decide) rfl (by decide) inlX4 (wsl_3 _ (List.mem_of_getElem? (i := 22) rfl)) rfl rfl rfl rfl (by decide +kernel) (by decide) rfl (Or.inr (Or.inr (Or.inr ⟨by decide, Or.inr ⟨_, rfl⟩⟩))) dX4_init_55 ?_
  refine c_aload_n dX4_init_58 rfl 0 rfl (nl rfl) ?_
  refine c_bipush dX4_init_59 (by decide) (by decide) ?_
  obtain ⟨h61_33, hg61_33, hr⟩ := bnd hr
  refine c_newa dX4_init_61 hg61_33 (wsl_3 _ (List.mem_of_getElem? (i := 2) rfl)) (Or.inl ⟨rfl, rfl⟩) ⟨nl rfl, nl rfl⟩ (fun G => ?_)
  obtain ⟨h63_34, hg63_34, hr⟩ := bnd hr
  refine c_putF 4 11 (t := 50) (ty := (.array .int)) (ref := "FollowingRefs$Schema") hg63_34 rfl tyX4 tyX4_ok nmX4 rfl (by decide) rfl (by decide) inlX4 (wsl_3 _ (List.mem_of_getElem? (i := 23) rfl)) rfl rfl rfl rfl (by decide +kernel) (by decide) rfl (Or.inr (Or.inr (Or.inr ⟨by decide, Or.inr ⟨_, rfl⟩⟩))) dX4_init_63 ?_
  obtain rfl := Option.some.inj hr
  exact c_vret dX4_init_66 rfl rfl ⟨rfl, rfl⟩
theorem oX4_init {l : Launch} {D : va_G} {n : Int} {h r : hH} {a0 : Int} (hr : fX4_init n h a0 = some r) : Ctc l D yX4_init M_X4_init [(14, a0)] h (none, r) := Ctc_of (by decide) rfl (fun _ => rfl) (nl rfl) (fun {p e R s m args below meth c G A H0} => oX4_init_w hr)
/-! X6_init -/
theorem dX6_init_0 : decode cX6_init 0 = .ok (.aload_n 0, 1) := by decide +kernel
theorem dX6_init_1 : decode cX6_init 1 = .ok (.invokespecial 3, 3) := by decide +kernel
theorem dX6_init_4 : decode cX6_init 4 = .ok (.aload_n 0, 1) := by decide +kernel
theorem dX6_init_5 : decode cX6_init 5 = .ok (.bipush 120, 2) := by decide +kernel
theorem dX6_init_7 : decode cX6_init 7 = .ok (.newarray .int, 2) := by decide +kernel
theorem dX6_init_9 : decode cX6_init 9 = .ok (.putfield 9, 3) := by decide +kernel
theorem dX6_init_12 : decode cX6_init 12 = .ok (.return_, 1) := by decide +kernel
abbrev M_X6_init : mM := (cX6_init, 1, RX6, none, true, 1, 30, 1, 120)
theorem gX6_init : cN yX6_init M_X6_init 0 := ⟨(wsl_4 _ (List.mem_of_getElem? (i := 14) rfl)), (wsl_2 _ (List.mem_of_getElem? (i := 3) rfl)), (wsl_4 _ (List.mem_of_getElem? (i := 15) rfl)), rfl, rfl, by decide +kernel⟩
noncomputable def fX6_init (n : Int) (h : hH) (a0 : Int) : Option hH :=
  (alc h (n) 50 120).bind fun h7_5 =>
  (pput h7_5 a0 3 n).bind fun h9_6 =>
  some h9_6
set_option maxRecDepth 100000 in
set_option maxHeartbeats 8000000 in
theorem oX6_init_w {p : Program} {l : Launch} {e : Env} {R : Room} {s : State} {m : MethodId} {args : Array Value} {below : List Frame} {meth : Method} {c : Code} {D : va_G} {G : gG} {A : Nat → Prop} {H0 : Heap} {G0 : gG} {n0 : Int} {n : Int} {h r : hH} {a0 : Int} (hr : fX6_init n h a0 = some r) : Wc p l e R s m args below meth c D G G0 A H0 false n0 M_X6_init (none, r) 0 0 0 [(0, (16, a0))] [] h := by
  unfold fX6_init at hr
  refine c_aload_n dX6_init_0 rfl 0 rfl (nl rfl) ?_
  refine c_objInit (t := 16) (by decide) (by decide) dX6_init_1 (wsl_4 _ (List.mem_of_getElem? (i := 16) rfl)) (wsl_1 _ (List.mem_of_getElem? (i := 11) rfl)) (wsl_1 _ (List.mem_of_getElem? (i := 12) rfl)) ⟨nl rfl, nl rfl⟩ ?_
  refine c_aload_n dX6_init_4 rfl 0 rfl (nl rfl) ?_
  refine c_bipush dX6_init_5 (by decide) (by decide) ?_
  obtain ⟨h7_5, hg7_5, hr⟩ := bnd hr
  refine c_newa dX6_init_7 hg7_5 (wsl_3 _ (List.mem_of_getElem? (i := 2) rfl)) (Or.inl ⟨rfl, rfl⟩) ⟨nl rfl, nl rfl⟩ (fun G => ?_)
  obtain ⟨h9_6, hg9_6, hr⟩ := bnd hr
  refine c_putF 6 3 (t := 50) (ty := (.array .int)) (ref := "FollowingRefs$Sentence") hg9_6 rfl tyX6 tyX6_ok nmX6 rfl (by decide) rfl (by decide) inlX6 (wsl_4 _ (List.mem_of_getElem? (i := 17) rfl)) rfl rfl rfl rfl (by decide +kernel) (by decide) rfl (Or.inr (Or.inr (Or.inr ⟨by decide, Or.inr ⟨_, rfl⟩⟩))) dX6_init_9 ?_
  obtain rfl := Option.some.inj hr
  exact c_vret dX6_init_12 rfl rfl ⟨rfl, rfl⟩
theorem oX6_init {l : Launch} {D : va_G} {n : Int} {h r : hH} {a0 : Int} (hr : fX6_init n h a0 = some r) : Ctc l D yX6_init M_X6_init [(16, a0)] h (none, r) := Ctc_of (by decide) rfl (fun _ => rfl) (nl rfl) (fun {p e R s m args below meth c G A H0} => oX6_init_w hr)
/-! X9_init -/
theorem dX9_init_0 : decode cX9_init 0 = .ok (.aload_n 0, 1) := by decide +kernel
theorem dX9_init_1 : decode cX9_init 1 = .ok (.invokespecial 3, 3) := by decide +kernel
theorem dX9_init_4 : decode cX9_init 4 = .ok (.aload_n 0, 1) := by decide +kernel
theorem dX9_init_5 : decode cX9_init 5 = .ok (.sipush 940, 3) := by decide +kernel
theorem dX9_init_8 : decode cX9_init 8 = .ok (.newarray .byte, 2) := by decide +kernel
theorem dX9_init_10 : decode cX9_init 10 = .ok (.putfield 9, 3) := by decide +kernel
theorem dX9_init_13 : decode cX9_init 13 = .ok (.aload_n 0, 1) := by decide +kernel
theorem dX9_init_14 : decode cX9_init 14 = .ok (.sipush 901, 3) := by decide +kernel
theorem dX9_init_17 : decode cX9_init 17 = .ok (.newarray .long, 2) := by decide +kernel
theorem dX9_init_19 : decode cX9_init 19 = .ok (.putfield 15, 3) := by decide +kernel
theorem dX9_init_22 : decode cX9_init 22 = .ok (.return_, 1) := by decide +kernel
abbrev M_X9_init : mM := (cX9_init, 1, RX9, none, true, 1, 30, 2, 1841)
theorem gX9_init : cN yX9_init M_X9_init 0 := ⟨(wsl_3 _ (List.mem_of_getElem? (i := 8) rfl)), (wsl_1 _ (List.mem_of_getElem? (i := 15) rfl)), (wsl_3 _ (List.mem_of_getElem? (i := 9) rfl)), rfl, rfl, by decide +kernel⟩
noncomputable def fX9_init (n : Int) (h : hH) (a0 : Int) : Option hH :=
  (alc h (n) 52 940).bind fun h8_5 =>
  (pput h8_5 a0 0 n).bind fun h10_6 =>
  (alc h10_6 (n + 1) 51 901).bind fun h17_9 =>
  (pput h17_9 a0 2 (n + 1)).bind fun h19_10 =>
  some h19_10
set_option maxRecDepth 100000 in
set_option maxHeartbeats 8000000 in
theorem oX9_init_w {p : Program} {l : Launch} {e : Env} {R : Room} {s : State} {m : MethodId} {args : Array Value} {below : List Frame} {meth : Method} {c : Code} {D : va_G} {G : gG} {A : Nat → Prop} {H0 : Heap} {G0 : gG} {n0 : Int} {n : Int} {h r : hH} {a0 : Int} (hr : fX9_init n h a0 = some r) : Wc p l e R s m args below meth c D G G0 A H0 false n0 M_X9_init (none, r) 0 0 0 [(0, (19, a0))] [] h := by
  unfold fX9_init at hr
  refine c_aload_n dX9_init_0 rfl 0 rfl (nl rfl) ?_
  refine c_objInit (t := 19) (by decide) (by decide) dX9_init_1 (wsl_3 _ (List.mem_of_getElem? (i := 10) rfl)) (wsl_1 _ (List.mem_of_getElem? (i := 11) rfl)) (wsl_1 _ (List.mem_of_getElem? (i := 12) rfl)) ⟨nl rfl, nl rfl⟩ ?_
  refine c_aload_n dX9_init_4 rfl 0 rfl (nl rfl) ?_
  refine c_sipush dX9_init_5 (by decide) (by decide) ?_
  obtain ⟨h8_5, hg8_5, hr⟩ := bnd hr
  refine c_newa dX9_init_8 hg8_5 (wsl_3 _ (List.mem_of_getElem? (i := 4) rfl)) (Or.inr (Or.inr (Or.inl ⟨rfl, rfl⟩))) ⟨nl rfl, nl rfl⟩ (fun G => ?_)
  obtain ⟨h10_6, hg10_6, hr⟩ := bnd hr
  refine c_putF 9 0 (t := 52) (ty := (.array .byte)) (ref := "FollowingRefs$Text") hg10_6 rfl tyX9 tyX9_ok nmX9 rfl (by decide) rfl (by decide) inlX9 (wsl_3 _ (List.mem_of_getElem? (i := 11) rfl)) rfl rfl rfl rfl (by decide +kernel) (by decide) rfl (Or.inr (Or.inr (Or.inr ⟨by decide, Or.inr ⟨_, rfl⟩⟩))) dX9_init_10 ?_
  refine c_aload_n dX9_init_13 rfl 0 rfl (nl rfl) ?_
  refine c_sipush dX9_init_14 (by decide) (by decide) ?_
  obtain ⟨h17_9, hg17_9, hr⟩ := bnd hr
  refine c_newa dX9_init_17 hg17_9 (wsl_1 _ (List.mem_of_getElem? (i := 6) rfl)) (Or.inr (Or.inl ⟨rfl, rfl⟩)) ⟨nl rfl, nl rfl⟩ (fun G => ?_)
  obtain ⟨h19_10, hg19_10, hr⟩ := bnd hr
  refine c_putF 9 2 (t := 51) (ty := (.array .long)) (ref := "FollowingRefs$Text") hg19_10 rfl tyX9 tyX9_ok nmX9 rfl (by decide) rfl (by decide) inlX9 (wsl_3 _ (List.mem_of_getElem? (i := 12) rfl)) rfl rfl rfl rfl (by decide +kernel) (by decide) rfl (Or.inr (Or.inr (Or.inr ⟨by decide, Or.inr ⟨_, rfl⟩⟩))) dX9_init_19 ?_
  obtain rfl := Option.some.inj hr
  exact c_vret dX9_init_22 rfl rfl ⟨rfl, rfl⟩
theorem oX9_init {l : Launch} {D : va_G} {n : Int} {h r : hH} {a0 : Int} (hr : fX9_init n h a0 = some r) : Ctc l D yX9_init M_X9_init [(19, a0)] h (none, r) := Ctc_of (by decide) rfl (fun _ => rfl) (nl rfl) (fun {p e R s m args below meth c G A H0} => oX9_init_w hr)
/-! X10_init -/
theorem dX10_init_0 : decode cX10_init 0 = .ok (.aload_n 0, 1) := by decide +kernel
theorem dX10_init_1 : decode cX10_init 1 = .ok (.invokespecial 3, 3) := by decide +kernel
theorem dX10_init_4 : decode cX10_init 4 = .ok (.aload_n 0, 1) := by decide +kernel
theorem dX10_init_5 : decode cX10_init 5 = .ok (.sipush 880, 3) := by decide +kernel
theorem dX10_init_8 : decode cX10_init 8 = .ok (.newarray .int, 2) := by decide +kernel
theorem dX10_init_10 : decode cX10_init 10 = .ok (.putfield 9, 3) := by decide +kernel
theorem dX10_init_13 : decode cX10_init 13 = .ok (.return_, 1) := by decide +kernel
abbrev M_X10_init : mM := (cX10_init, 1, RX10, none, true, 1, 30, 1, 880)
theorem gX10_init : cN yX10_init M_X10_init 0 := ⟨(wsl_6 _ (List.mem_of_getElem? (i := 10) rfl)), (wsl_6 _ (List.mem_of_getElem? (i := 0) rfl)), (wsl_6 _ (List.mem_of_getElem? (i := 11) rfl)), rfl, rfl, by decide +kernel⟩
noncomputable def fX10_init (n : Int) (h : hH) (a0 : Int) : Option hH :=
  (alc h (n) 50 880).bind fun h8_5 =>
  (pput h8_5 a0 1 n).bind fun h10_6 =>
  some h10_6
set_option maxRecDepth 100000 in
set_option maxHeartbeats 8000000 in
theorem oX10_init_w {p : Program} {l : Launch} {e : Env} {R : Room} {s : State} {m : MethodId} {args : Array Value} {below : List Frame} {meth : Method} {c : Code} {D : va_G} {G : gG} {A : Nat → Prop} {H0 : Heap} {G0 : gG} {n0 : Int} {n : Int} {h r : hH} {a0 : Int} (hr : fX10_init n h a0 = some r) : Wc p l e R s m args below meth c D G G0 A H0 false n0 M_X10_init (none, r) 0 0 0 [(0, (20, a0))] [] h := by
  unfold fX10_init at hr
  refine c_aload_n dX10_init_0 rfl 0 rfl (nl rfl) ?_
  refine c_objInit (t := 20) (by decide) (by decide) dX10_init_1 (wsl_6 _ (List.mem_of_getElem? (i := 12) rfl)) (wsl_1 _ (List.mem_of_getElem? (i := 11) rfl)) (wsl_1 _ (List.mem_of_getElem? (i := 12) rfl)) ⟨nl rfl, nl rfl⟩ ?_
  refine c_aload_n dX10_init_4 rfl 0 rfl (nl rfl) ?_
  refine c_sipush dX10_init_5 (by decide) (by decide) ?_
  obtain ⟨h8_5, hg8_5, hr⟩ := bnd hr
  refine c_newa dX10_init_8 hg8_5 (wsl_3 _ (List.mem_of_getElem? (i := 2) rfl)) (Or.inl ⟨rfl, rfl⟩) ⟨nl rfl, nl rfl⟩ (fun G => ?_)
  obtain ⟨h10_6, hg10_6, hr⟩ := bnd hr
  refine c_putF 10 1 (t := 50) (ty := (.array .int)) (ref := "FollowingRefs$Violations") hg10_6 rfl tyX10 tyX10_ok nmX10 rfl (by decide) rfl (by decide) inlX10 (wsl_6 _ (List.mem_of_getElem? (i := 13) rfl)) rfl rfl rfl rfl (by decide +kernel) (by decide) rfl (Or.inr (Or.inr (Or.inr ⟨by decide, Or.inr ⟨_, rfl⟩⟩))) dX10_init_10 ?_
  obtain rfl := Option.some.inj hr
  exact c_vret dX10_init_13 rfl rfl ⟨rfl, rfl⟩
theorem oX10_init {l : Launch} {D : va_G} {n : Int} {h r : hH} {a0 : Int} (hr : fX10_init n h a0 = some r) : Ctc l D yX10_init M_X10_init [(20, a0)] h (none, r) := Ctc_of (by decide) rfl (fun _ => rfl) (nl rfl) (fun {p e R s m args below meth c G A H0} => oX10_init_w hr)
/-! X2_init -/
theorem dX2_init_0 : decode cX2_init 0 = .ok (.aload_n 0, 1) := by decide +kernel
theorem dX2_init_1 : decode cX2_init 1 = .ok (.invokespecial 3, 3) := by decide +kernel
theorem dX2_init_4 : decode cX2_init 4 = .ok (.aload_n 0, 1) := by decide +kernel
theorem dX2_init_5 : decode cX2_init 5 = .ok (.sipush 760, 3) := by decide +kernel
theorem dX2_init_8 : decode cX2_init 8 = .ok (.newarray .int, 2) := by decide +kernel
theorem dX2_init_10 : decode cX2_init 10 = .ok (.putfield 9, 3) := by decide +kernel
theorem dX2_init_13 : decode cX2_init 13 = .ok (.aload_n 0, 1) := by decide +kernel
theorem dX2_init_14 : decode cX2_init 14 = .ok (.aload_n 1, 1) := by decide +kernel
theorem dX2_init_15 : decode cX2_init 15 = .ok (.putfield 15, 3) := by decide +kernel
theorem dX2_init_18 : decode cX2_init 18 = .ok (.aload_n 0, 1) := by decide +kernel
theorem dX2_init_19 : decode cX2_init 19 = .ok (.aload_n 2, 1) := by decide +kernel
theorem dX2_init_20 : decode cX2_init 20 = .ok (.putfield 19, 3) := by decide +kernel
theorem dX2_init_23 : decode cX2_init 23 = .ok (.return_, 1) := by decide +kernel
abbrev M_X2_init : mM := (cX2_init, 3, RX2, none, true, 1, 30, 1, 760)
theorem gX2_init : cN yX2_init M_X2_init 2 := ⟨(wsl_5 _ (List.mem_of_getElem? (i := 10) rfl)), (wsl_2 _ (List.mem_of_getElem? (i := 15) rfl)), (wsl_5 _ (List.mem_of_getElem? (i := 11) rfl)), rfl, rfl, by decide +kernel⟩
noncomputable def fX2_init (n : Int) (h : hH) (a0 a1 a2 : Int) : Option hH :=
  (alc h (n) 50 760).bind fun h8_5 =>
  (pput h8_5 a0 3 n).bind fun h10_6 =>
  (pput h10_6 a0 0 a1).bind fun h15_9 =>
  (pput h15_9 a0 1 a2).bind fun h20_12 =>
  some h20_12
set_option maxRecDepth 100000 in
set_option maxHeartbeats 8000000 in
theorem oX2_init_w {p : Program} {l : Launch} {e : Env} {R : Room} {s : State} {m : MethodId} {args : Array Value} {below : List Frame} {meth : Method} {c : Code} {D : va_G} {G : gG} {A : Nat → Prop} {H0 : Heap} {G0 : gG} {n0 : Int} {n : Int} {h r : hH} {a0 a1 a2 : Int} (hr : fX2_init n h a0 a1 a2 = some r) : Wc p l e R s m args below meth c D G G0 A H0 false n0 M_X2_init (none, r) 0 0 0 [(0, (12, a0)), (1, (19, a1)), (2, (14, a2))] [] h := by
  unfold fX2_init at hr
  refine c_aload_n dX2_init_0 rfl 0 rfl (nl rfl) ?_
  refine c_objInit (t := 12) (by decide) (by decide) dX2_init_1 (wsl_5 _ (List.mem_of_getElem? (i := 12) rfl)) (wsl_1 _ (List.mem_of_getElem? (i := 11) rfl)) (wsl_1 _ (List.mem_of_getElem? (i := 12) rfl)) ⟨nl rfl, nl rfl⟩ ?_
  refine c_aload_n dX2_init_4 rfl 0 rfl (nl rfl) ?_
  refine c_sipush dX2_init_5 (by decide) (by decide) ?_
  obtain ⟨h8_5, hg8_5, hr⟩ := bnd hr
  refine c_newa dX2_init_8 hg8_5 (wsl_3 _ (List.mem_of_getElem? (i := 2) rfl)) (Or.inl ⟨rfl, rfl⟩) ⟨nl rfl, nl rfl⟩ (fun G => ?_)
  obtain ⟨h10_6, hg10_6, hr⟩ := bnd hr
  refine c_putF 2 3 (t := 50) (ty := (.array .int)) (ref := "FollowingRefs$Lines") hg10_6 rfl tyX2 tyX2_ok nmX2 rfl (by decide) rfl (by decide) inlX2 (wsl_5 _ (List.mem_of_getElem? (i := 13) rfl)) rfl rfl rfl rfl (by decide +kernel) (by decide) rfl (Or.inr (Or.inr (Or.inr ⟨by decide, Or.inr ⟨_, rfl⟩⟩))) dX2_init_10 ?_
  refine c_aload_n dX2_init_13 rfl 0 rfl (nl rfl) ?_
  refine c_aload_n dX2_init_14 rfl 1 rfl (nl rfl) ?_
  obtain ⟨h15_9, hg15_9, hr⟩ := bnd hr
  refine c_putF 2 0 (t := 19) (ty := (.object "FollowingRefs$Text")) (ref := "FollowingRefs$Lines") hg15_9 rfl tyX2 tyX2_ok nmX2 rfl (by decide) rfl (by decide) inlX2 (wsl_5 _ (List.mem_of_getElem? (i := 14) rfl)) rfl rfl rfl rfl (by decide +kernel) (by decide) rfl (Or.inr (Or.inr (Or.inr ⟨by decide, Or.inl ⟨_, rfl⟩⟩))) dX2_init_15 ?_
  refine c_aload_n dX2_init_18 rfl 0 rfl (nl rfl) ?_
  refine c_aload_n dX2_init_19 rfl 2 rfl (nl rfl) ?_
  obtain ⟨h20_12, hg20_12, hr⟩ := bnd hr
  refine c_putF 2 1 (t := 14) (ty := (.object "FollowingRefs$Schema")) (ref := "FollowingRefs$Lines") hg20_12 rfl tyX2 tyX2_ok nmX2 rfl (by decide) rfl (by decide) inlX2 (wsl_5 _ (List.mem_of_getElem? (i := 15) rfl)) rfl rfl rfl rfl (by decide +kernel) (by decide) rfl (Or.inr (Or.inr (Or.inr ⟨by decide, Or.inl ⟨_, rfl⟩⟩))) dX2_init_20 ?_
  obtain rfl := Option.some.inj hr
  exact c_vret dX2_init_23 rfl rfl ⟨rfl, rfl⟩
theorem oX2_init {l : Launch} {D : va_G} {n : Int} {h r : hH} {a0 a1 a2 : Int} (hr : fX2_init n h a0 a1 a2 = some r) : Ctc l D yX2_init M_X2_init [(12, a0), (19, a1), (14, a2)] h (none, r) := Ctc_of (by decide) rfl (fun _ => rfl) (nl rfl) (fun {p e R s m args below meth c G A H0} => oX2_init_w hr)
/-! X8_init -/
theorem dX8_init_0 : decode cX8_init 0 = .ok (.aload_n 0, 1) := by decide +kernel
theorem dX8_init_1 : decode cX8_init 1 = .ok (.invokespecial 1, 3) := by decide +kernel
theorem dX8_init_4 : decode cX8_init 4 = .ok (.aload_n 0, 1) := by decide +kernel
theorem dX8_init_5 : decode cX8_init 5 = .ok (.new 7, 3) := by decide +kernel
theorem dX8_init_8 : decode cX8_init 8 = .ok (.dup, 1) := by decide +kernel
theorem dX8_init_9 : decode cX8_init 9 = .ok (.invokespecial 9, 3) := by decide +kernel
theorem dX8_init_12 : decode cX8_init 12 = .ok (.putfield 10, 3) := by decide +kernel
theorem dX8_init_15 : decode cX8_init 15 = .ok (.aload_n 0, 1) := by decide +kernel
theorem dX8_init_16 : decode cX8_init 16 = .ok (.new 7, 3) := by decide +kernel
theorem dX8_init_19 : decode cX8_init 19 = .ok (.dup, 1) := by decide +kernel
theorem dX8_init_20 : decode cX8_init 20 = .ok (.invokespecial 9, 3) := by decide +kernel
theorem dX8_init_23 : decode cX8_init 23 = .ok (.putfield 16, 3) := by decide +kernel
theorem dX8_init_26 : decode cX8_init 26 = .ok (.return_, 1) := by decide +kernel
abbrev M_X8_init : mM := (cX8_init, 1, RX8, none, true, 2, 50, 8, 490)
theorem gX8_init : cN yX8_init M_X8_init 0 := ⟨(wsl_4 _ (List.mem_of_getElem? (i := 0) rfl)), (wsl_1 _ (List.mem_of_getElem? (i := 23) rfl)), (wsl_4 _ (List.mem_of_getElem? (i := 1) rfl)), rfl, rfl, by decide +kernel⟩
noncomputable def fX8_init (n : Int) (h : hH) (a0 : Int) : Option hH :=
  (alc h (n) 13 0).bind fun h5_4 =>
  (fX3_init (n + 1) h5_4 n).bind fun h9_6 =>
  (pput h9_6 a0 0 n).bind fun h12_7 =>
  (alc h12_7 (n + 4) 13 0).bind fun h16_9 =>
  (fX3_init (n + 5) h16_9 (n + 4)).bind fun h20_11 =>
  (pput h20_11 a0 1 (n + 4)).bind fun h23_12 =>
  some h23_12
set_option maxRecDepth 100000 in
set_option maxHeartbeats 8000000 in
theorem oX8_init_w {p : Program} {l : Launch} {e : Env} {R : Room} {s : State} {m : MethodId} {args : Array Value} {below : List Frame} {meth : Method} {c : Code} {D : va_G} {G : gG} {A : Nat → Prop} {H0 : Heap} {G0 : gG} {n0 : Int} {n : Int} {h r : hH} {a0 : Int} (hr : fX8_init n h a0 = some r) : Wc p l e R s m args below meth c D G G0 A H0 false n0 M_X8_init (none, r) 0 0 0 [(0, (18, a0))] [] h := by
  unfold fX8_init at hr
  refine c_aload_n dX8_init_0 rfl 0 rfl (nl rfl) ?_
  refine c_objInit (t := 18) (by decide) (by decide) dX8_init_1 (wsl_4 _ (List.mem_of_getElem? (i := 2) rfl)) (wsl_1 _ (List.mem_of_getElem? (i := 11) rfl)) (wsl_1 _ (List.mem_of_getElem? (i := 12) rfl)) ⟨nl rfl, nl rfl⟩ ?_
  refine c_aload_n dX8_init_4 rfl 0 rfl (nl rfl) ?_
  obtain ⟨h5_4, hg5_4, hr⟩ := bnd hr
  refine c_new 3 (N := 5) dX8_init_5 hg5_4 rfl (by decide) rfl tyX3 tyX3_ok inlX3 (wsl_4 _ (List.mem_of_getElem? (i := 3) rfl)) (wsl_4 _ (List.mem_of_getElem? (i := 4) rfl)) (wsl_4 _ (List.mem_of_getElem? (i := 5) rfl)) ⟨nl rfl, nl rfl⟩ (by decide +kernel) (fun G => ?_)
  refine c_dup dX8_init_8 (Nat.ne_of_beq_eq_false rfl) ?_
  obtain ⟨h9_6, hg9_6, hr⟩ := bnd hr
  refine c_callIN (host := "FollowingRefs") (t := 13) (o := n) (as := []) (rest := [(13, n), (18, a0)]) (X := (none, h9_6)) (oX3_init hg9_6) (by decide) (by decide) gX3_init rfl (List.mem_of_getElem? (i := 32) rfl) rfl dX8_init_9 rfl (fun G => ?_)
  obtain ⟨h12_7, hg12_7, hr⟩ := bnd hr
  refine c_putF 8 0 (t := 13) (ty := (.object "FollowingRefs$Rows")) (ref := "FollowingRefs$State") hg12_7 rfl tyX8 tyX8_ok nmX8 rfl (by decide) rfl (by decide) inlX8 (wsl_4 _ (List.mem_of_getElem? (i := 6) rfl)) rfl rfl rfl rfl (by decide +kernel) (by decide) rfl (Or.inr (Or.inr (Or.inr ⟨by decide, Or.inl ⟨_, rfl⟩⟩))) dX8_init_12 ?_
  refine c_aload_n dX8_init_15 rfl 0 rfl (nl rfl) ?_
  obtain ⟨h16_9, hg16_9, hr⟩ := bnd hr
  refine c_new 3 (N := 5) dX8_init_16 hg16_9 rfl (by decide) rfl tyX3 tyX3_ok inlX3 (wsl_4 _ (List.mem_of_getElem? (i := 3) rfl)) (wsl_4 _ (List.mem_of_getElem? (i := 4) rfl)) (wsl_4 _ (List.mem_of_getElem? (i := 5) rfl)) ⟨nl rfl, nl rfl⟩ (by decide +kernel) (fun G => ?_)
  refine c_dup dX8_init_19 (Nat.ne_of_beq_eq_false rfl) ?_
  obtain ⟨h20_11, hg20_11, hr⟩ := bnd hr
  refine c_callIN (host := "FollowingRefs") (t := 13) (o := n + 4) (as := []) (rest := [(13, n + 4), (18, a0)]) (X := (none, h20_11)) (oX3_init hg20_11) (by decide) (by decide) gX3_init rfl (List.mem_of_getElem? (i := 32) rfl) rfl dX8_init_20 rfl (fun G => ?_)
  obtain ⟨h23_12, hg23_12, hr⟩ := bnd hr
  refine c_putF 8 1 (t := 13) (ty := (.object "FollowingRefs$Rows")) (ref := "FollowingRefs$State") hg23_12 rfl tyX8 tyX8_ok nmX8 rfl (by decide) rfl (by decide) inlX8 (wsl_4 _ (List.mem_of_getElem? (i := 7) rfl)) rfl rfl rfl rfl (by decide +kernel) (by decide) rfl (Or.inr (Or.inr (Or.inr ⟨by decide, Or.inl ⟨_, rfl⟩⟩))) dX8_init_23 ?_
  obtain rfl := Option.some.inj hr
  exact c_vret dX8_init_26 rfl rfl ⟨rfl, rfl⟩
theorem oX8_init {l : Launch} {D : va_G} {n : Int} {h r : hH} {a0 : Int} (hr : fX8_init n h a0 = some r) : Ctc l D yX8_init M_X8_init [(18, a0)] h (none, r) := Ctc_of (by decide) rfl (fun _ => rfl) (nl rfl) (fun {p e R s m args below meth c G A H0} => oX8_init_w hr)
/-! X5_init -/
theorem dX5_init_0 : decode cX5_init 0 = .ok (.aload_n 0, 1) := by decide +kernel
theorem dX5_init_1 : decode cX5_init 1 = .ok (.invokespecial 3, 3) := by decide +kernel
theorem dX5_init_4 : decode cX5_init 4 = .ok (.aload_n 0, 1) := by decide +kernel
theorem dX5_init_5 : decode cX5_init 5 = .ok (.new 9, 3) := by decide +kernel
theorem dX5_init_8 : decode cX5_init 8 = .ok (.dup, 1) := by decide +kernel
theorem dX5_init_9 : decode cX5_init 9 = .ok (.invokespecial 11, 3) := by decide +kernel
theorem dX5_init_12 : decode cX5_init 12 = .ok (.putfield 12, 3) := by decide +kernel
theorem dX5_init_15 : decode cX5_init 15 = .ok (.aload_n 0, 1) := by decide +kernel
theorem dX5_init_16 : decode cX5_init 16 = .ok (.aload_n 1, 1) := by decide +kernel
theorem dX5_init_17 : decode cX5_init 17 = .ok (.putfield 18, 3) := by decide +kernel
theorem dX5_init_20 : decode cX5_init 20 = .ok (.return_, 1) := by decide +kernel
abbrev M_X5_init : mM := (cX5_init, 2, RX5, none, true, 2, 50, 9, 176)
theorem gX5_init : cN yX5_init M_X5_init 1 := ⟨(wsl_4 _ (List.mem_of_getElem? (i := 19) rfl)), (wsl_2 _ (List.mem_of_getElem? (i := 7) rfl)), (wsl_4 _ (List.mem_of_getElem? (i := 20) rfl)), rfl, rfl, by decide +kernel⟩
noncomputable def fX5_init (n : Int) (h : hH) (a0 a1 : Int) : Option hH :=
  (alc h (n) 14 0).bind fun h5_4 =>
  (fX4_init (n + 1) h5_4 n).bind fun h9_6 =>
  (pput h9_6 a0 1 n).bind fun h12_7 =>
  (pput h12_7 a0 0 a1).bind fun h17_10 =>
  some h17_10
set_option maxRecDepth 100000 in
set_option maxHeartbeats 8000000 in
theorem oX5_init_w {p : Program} {l : Launch} {e : Env} {R : Room} {s : State} {m : MethodId} {args : Array Value} {below : List Frame} {meth : Method} {c : Code} {D : va_G} {G : gG} {A : Nat → Prop} {H0 : Heap} {G0 : gG} {n0 : Int} {n : Int} {h r : hH} {a0 a1 : Int} (hr : fX5_init n h a0 a1 = some r) : Wc p l e R s m args below meth c D G G0 A H0 false n0 M_X5_init (none, r) 0 0 0 [(0, (15, a0)), (1, (19, a1))] [] h := by
  unfold fX5_init at hr
  refine c_aload_n dX5_init_0 rfl 0 rfl (nl rfl) ?_
  refine c_objInit (t := 15) (by decide) (by decide) dX5_init_1 (wsl_4 _ (List.mem_of_getElem? (i := 21) rfl)) (wsl_1 _ (List.mem_of_getElem? (i := 11) rfl)) (wsl_1 _ (List.mem_of_getElem? (i := 12) rfl)) ⟨nl rfl, nl rfl⟩ ?_
  refine c_aload_n dX5_init_4 rfl 0 rfl (nl rfl) ?_
  obtain ⟨h5_4, hg5_4, hr⟩ := bnd hr
  refine c_new 4 (N := 12) dX5_init_5 hg5_4 rfl (by decide) rfl tyX4 tyX4_ok inlX4 (wsl_4 _ (List.mem_of_getElem? (i := 22) rfl)) (wsl_1 _ (List.mem_of_getElem? (i := 18) rfl)) (wsl_1 _ (List.mem_of_getElem? (i := 19) rfl)) ⟨nl rfl, nl rfl⟩ (by decide +kernel) (fun G => ?_)
  refine c_dup dX5_init_8 (Nat.ne_of_beq_eq_false rfl) ?_
  obtain ⟨h9_6, hg9_6, hr⟩ := bnd hr
  refine c_callIN (host := "FollowingRefs") (t := 14) (o := n) (as := []) (rest := [(14, n), (15, a0)]) (X := (none, h9_6)) (oX4_init hg9_6) (by decide) (by decide) gX4_init rfl (List.mem_of_getElem? (i := 25) rfl) rfl dX5_init_9 rfl (fun G => ?_)
  obtain ⟨h12_7, hg12_7, hr⟩ := bnd hr
  refine c_putF 5 1 (t := 14) (ty := (.object "FollowingRefs$Schema")) (ref := "FollowingRefs$SchemaReader") hg12_7 rfl tyX5 tyX5_ok nmX5 rfl (by decide) rfl (by decide) inlX5 (wsl_4 _ (List.mem_of_getElem? (i := 23) rfl)) rfl rfl rfl rfl (by decide +kernel) (by decide) rfl (Or.inr (Or.inr (Or.inr ⟨by decide, Or.inl ⟨_, rfl⟩⟩))) dX5_init_12 ?_
  refine c_aload_n dX5_init_15 rfl 0 rfl (nl rfl) ?_
  refine c_aload_n dX5_init_16 rfl 1 rfl (nl rfl) ?_
  obtain ⟨h17_10, hg17_10, hr⟩ := bnd hr
  refine c_putF 5 0 (t := 19) (ty := (.object "FollowingRefs$Text")) (ref := "FollowingRefs$SchemaReader") hg17_10 rfl tyX5 tyX5_ok nmX5 rfl (by decide) rfl (by decide) inlX5 (wsl_5 _ (List.mem_of_getElem? (i := 0) rfl)) rfl rfl rfl rfl (by decide +kernel) (by decide) rfl (Or.inr (Or.inr (Or.inr ⟨by decide, Or.inl ⟨_, rfl⟩⟩))) dX5_init_17 ?_
  obtain rfl := Option.some.inj hr
  exact c_vret dX5_init_20 rfl rfl ⟨rfl, rfl⟩
theorem oX5_init {l : Launch} {D : va_G} {n : Int} {h r : hH} {a0 a1 : Int} (hr : fX5_init n h a0 a1 = some r) : Ctc l D yX5_init M_X5_init [(15, a0), (19, a1)] h (none, r) := Ctc_of (by decide) rfl (fun _ => rfl) (nl rfl) (fun {p e R s m args below meth c G A H0} => oX5_init_w hr)
/-! X7_init -/
theorem dX7_init_0 : decode cX7_init 0 = .ok (.aload_n 0, 1) := by decide +kernel
theorem dX7_init_1 : decode cX7_init 1 = .ok (.invokespecial 3, 3) := by decide +kernel
theorem dX7_init_4 : decode cX7_init 4 = .ok (.aload_n 0, 1) := by decide +kernel
theorem dX7_init_5 : decode cX7_init 5 = .ok (.new 9, 3) := by decide +kernel
theorem dX7_init_8 : decode cX7_init 8 = .ok (.dup, 1) := by decide +kernel
theorem dX7_init_9 : decode cX7_init 9 = .ok (.invokespecial 11, 3) := by decide +kernel
theorem dX7_init_12 : decode cX7_init 12 = .ok (.putfield 12, 3) := by decide +kernel
theorem dX7_init_15 : decode cX7_init 15 = .ok (.aload_n 0, 1) := by decide +kernel
theorem dX7_init_16 : decode cX7_init 16 = .ok (.aload_n 1, 1) := by decide +kernel
theorem dX7_init_17 : decode cX7_init 17 = .ok (.putfield 18, 3) := by decide +kernel
theorem dX7_init_20 : decode cX7_init 20 = .ok (.aload_n 0, 1) := by decide +kernel
theorem dX7_init_21 : decode cX7_init 21 = .ok (.aload_n 2, 1) := by decide +kernel
theorem dX7_init_22 : decode cX7_init 22 = .ok (.putfield 22, 3) := by decide +kernel
theorem dX7_init_25 : decode cX7_init 25 = .ok (.return_, 1) := by decide +kernel
abbrev M_X7_init : mM := (cX7_init, 3, RX7, none, true, 2, 50, 2, 124)
theorem gX7_init : cN yX7_init M_X7_init 2 := ⟨(wsl_5 _ (List.mem_of_getElem? (i := 2) rfl)), (wsl_2 _ (List.mem_of_getElem? (i := 11) rfl)), (wsl_5 _ (List.mem_of_getElem? (i := 3) rfl)), rfl, rfl, by decide +kernel⟩
noncomputable def fX7_init (n : Int) (h : hH) (a0 a1 a2 : Int) : Option hH :=
  (alc h (n) 16 0).bind fun h5_4 =>
  (fX6_init (n + 1) h5_4 n).bind fun h9_6 =>
  (pput h9_6 a0 2 n).bind fun h12_7 =>
  (pput h12_7 a0 0 a1).bind fun h17_10 =>
  (pput h17_10 a0 1 a2).bind fun h22_13 =>
  some h22_13
set_option maxRecDepth 100000 in
set_option maxHeartbeats 8000000 in
theorem oX7_init_w {p : Program} {l : Launch} {e : Env} {R : Room} {s : State} {m : MethodId} {args : Array Value} {below : List Frame} {meth : Method} {c : Code} {D : va_G} {G : gG} {A : Nat → Prop} {H0 : Heap} {G0 : gG} {n0 : Int} {n : Int} {h r : hH} {a0 a1 a2 : Int} (hr : fX7_init n h a0 a1 a2 = some r) : Wc p l e R s m args below meth c D G G0 A H0 false n0 M_X7_init (none, r) 0 0 0 [(0, (17, a0)), (1, (19, a1)), (2, (14, a2))] [] h := by
  unfold fX7_init at hr
  refine c_aload_n dX7_init_0 rfl 0 rfl (nl rfl) ?_
  refine c_objInit (t := 17) (by decide) (by decide) dX7_init_1 (wsl_5 _ (List.mem_of_getElem? (i := 4) rfl)) (wsl_1 _ (List.mem_of_getElem? (i := 11) rfl)) (wsl_1 _ (List.mem_of_getElem? (i := 12) rfl)) ⟨nl rfl, nl rfl⟩ ?_
  refine c_aload_n dX7_init_4 rfl 0 rfl (nl rfl) ?_
  obtain ⟨h5_4, hg5_4, hr⟩ := bnd hr
  refine c_new 6 (N := 4) dX7_init_5 hg5_4 rfl (by decide) rfl tyX6 tyX6_ok inlX6 (wsl_5 _ (List.mem_of_getElem? (i := 5) rfl)) (wsl_2 _ (List.mem_of_getElem? (i := 2) rfl)) (wsl_2 _ (List.mem_of_getElem? (i := 3) rfl)) ⟨nl rfl, nl rfl⟩ (by decide +kernel) (fun G => ?_)
  refine c_dup dX7_init_8 (Nat.ne_of_beq_eq_false rfl) ?_
  obtain ⟨h9_6, hg9_6, hr⟩ := bnd hr
  refine c_callIN (host := "FollowingRefs") (t := 16) (o := n) (as := []) (rest := [(16, n), (17, a0)]) (X := (none, h9_6)) (oX6_init hg9_6) (by decide) (by decide) gX6_init rfl (List.mem_of_getElem? (i := 31) rfl) rfl dX7_init_9 rfl (fun G => ?_)
  obtain ⟨h12_7, hg12_7, hr⟩ := bnd hr
  refine c_putF 7 2 (t := 16) (ty := (.object "FollowingRefs$Sentence")) (ref := "FollowingRefs$SentenceReader") hg12_7 rfl tyX7 tyX7_ok nmX7 rfl (by decide) rfl (by decide) inlX7 (wsl_5 _ (List.mem_of_getElem? (i := 6) rfl)) rfl rfl rfl rfl (by decide +kernel) (by decide) rfl (Or.inr (Or.inr (Or.inr ⟨by decide, Or.inl ⟨_, rfl⟩⟩))) dX7_init_12 ?_
  refine c_aload_n dX7_init_15 rfl 0 rfl (nl rfl) ?_
  refine c_aload_n dX7_init_16 rfl 1 rfl (nl rfl) ?_
  obtain ⟨h17_10, hg17_10, hr⟩ := bnd hr
  refine c_putF 7 0 (t := 19) (ty := (.object "FollowingRefs$Text")) (ref := "FollowingRefs$SentenceReader") hg17_10 rfl tyX7 tyX7_ok nmX7 rfl (by decide) rfl (by decide) inlX7 (wsl_5 _ (List.mem_of_getElem? (i := 7) rfl)) rfl rfl rfl rfl (by decide +kernel) (by decide) rfl (Or.inr (Or.inr (Or.inr ⟨by decide, Or.inl ⟨_, rfl⟩⟩))) dX7_init_17 ?_
  refine c_aload_n dX7_init_20 rfl 0 rfl (nl rfl) ?_
  refine c_aload_n dX7_init_21 rfl 2 rfl (nl rfl) ?_
  obtain ⟨h22_13, hg22_13, hr⟩ := bnd hr
  refine c_putF 7 1 (t := 14) (ty := (.object "FollowingRefs$Schema")) (ref := "FollowingRefs$SentenceReader") hg22_13 rfl tyX7 tyX7_ok nmX7 rfl (by decide) rfl (by decide) inlX7 (wsl_5 _ (List.mem_of_getElem? (i := 8) rfl)) rfl rfl rfl rfl (by decide +kernel) (by decide) rfl (Or.inr (Or.inr (Or.inr ⟨by decide, Or.inl ⟨_, rfl⟩⟩))) dX7_init_22 ?_
  obtain rfl := Option.some.inj hr
  exact c_vret dX7_init_25 rfl rfl ⟨rfl, rfl⟩
theorem oX7_init {l : Launch} {D : va_G} {n : Int} {h r : hH} {a0 a1 a2 : Int} (hr : fX7_init n h a0 a1 a2 = some r) : Ctc l D yX7_init M_X7_init [(17, a0), (19, a1), (14, a2)] h (none, r) := Ctc_of (by decide) rfl (fun _ => rfl) (nl rfl) (fun {p e R s m args below meth c G A H0} => oX7_init_w hr)
/-! X1_init -/
theorem dX1_init_0 : decode cX1_init 0 = .ok (.aload_n 0, 1) := by decide +kernel
theorem dX1_init_1 : decode cX1_init 1 = .ok (.invokespecial 3, 3) := by decide +kernel
theorem dX1_init_4 : decode cX1_init 4 = .ok (.aload_n 0, 1) := by decide +kernel
theorem dX1_init_5 : decode cX1_init 5 = .ok (.new 9, 3) := by decide +kernel
theorem dX1_init_8 : decode cX1_init 8 = .ok (.dup, 1) := by decide +kernel
theorem dX1_init_9 : decode cX1_init 9 = .ok (.invokespecial 11, 3) := by decide +kernel
theorem dX1_init_12 : decode cX1_init 12 = .ok (.putfield 12, 3) := by decide +kernel
theorem dX1_init_15 : decode cX1_init 15 = .ok (.aload_n 0, 1) := by decide +kernel
theorem dX1_init_16 : decode cX1_init 16 = .ok (.new 18, 3) := by decide +kernel
theorem dX1_init_19 : decode cX1_init 19 = .ok (.dup, 1) := by decide +kernel
theorem dX1_init_20 : decode cX1_init 20 = .ok (.invokespecial 20, 3) := by decide +kernel
theorem dX1_init_23 : decode cX1_init 23 = .ok (.putfield 21, 3) := by decide +kernel
theorem dX1_init_26 : decode cX1_init 26 = .ok (.aload_n 0, 1) := by decide +kernel
theorem dX1_init_27 : decode cX1_init 27 = .ok (.bipush 40, 2) := by decide +kernel
theorem dX1_init_29 : decode cX1_init 29 = .ok (.newarray .int, 2) := by decide +kernel
theorem dX1_init_31 : decode cX1_init 31 = .ok (.putfield 25, 3) := by decide +kernel
theorem dX1_init_34 : decode cX1_init 34 = .ok (.aload_n 0, 1) := by decide +kernel
theorem dX1_init_35 : decode cX1_init 35 = .ok (.bipush 40, 2) := by decide +kernel
theorem dX1_init_37 : decode cX1_init 37 = .ok (.newarray .int, 2) := by decide +kernel
theorem dX1_init_39 : decode cX1_init 39 = .ok (.putfield 29, 3) := by decide +kernel
theorem dX1_init_42 : decode cX1_init 42 = .ok (.aload_n 0, 1) := by decide +kernel
theorem dX1_init_43 : decode cX1_init 43 = .ok (.bipush 40, 2) := by decide +kernel
theorem dX1_init_45 : decode cX1_init 45 = .ok (.newarray .int, 2) := by decide +kernel
theorem dX1_init_47 : decode cX1_init 47 = .ok (.putfield 32, 3) := by decide +kernel
theorem dX1_init_50 : decode cX1_init 50 = .ok (.aload_n 0, 1) := by decide +kernel
theorem dX1_init_51 : decode cX1_init 51 = .ok (.sipush 240, 3) := by decide +kernel
theorem dX1_init_54 : decode cX1_init 54 = .ok (.newarray .int, 2) := by decide +kernel
theorem dX1_init_56 : decode cX1_init 56 = .ok (.putfield 35, 3) := by decide +kernel
theorem dX1_init_59 : decode cX1_init 59 = .ok (.aload_n 0, 1) := by decide +kernel
theorem dX1_init_60 : decode cX1_init 60 = .ok (.sipush 160, 3) := by decide +kernel
theorem dX1_init_63 : decode cX1_init 63 = .ok (.newarray .int, 2) := by decide +kernel
theorem dX1_init_65 : decode cX1_init 65 = .ok (.putfield 38, 3) := by decide +kernel
theorem dX1_init_68 : decode cX1_init 68 = .ok (.aload_n 0, 1) := by decide +kernel
theorem dX1_init_69 : decode cX1_init 69 = .ok (.sipush 160, 3) := by decide +kernel
theorem dX1_init_72 : decode cX1_init 72 = .ok (.newarray .int, 2) := by decide +kernel
theorem dX1_init_74 : decode cX1_init 74 = .ok (.putfield 41, 3) := by decide +kernel
theorem dX1_init_77 : decode cX1_init 77 = .ok (.aload_n 0, 1) := by decide +kernel
theorem dX1_init_78 : decode cX1_init 78 = .ok (.aload_n 1, 1) := by decide +kernel
theorem dX1_init_79 : decode cX1_init 79 = .ok (.putfield 44, 3) := by decide +kernel
theorem dX1_init_82 : decode cX1_init 82 = .ok (.aload_n 0, 1) := by decide +kernel
theorem dX1_init_83 : decode cX1_init 83 = .ok (.aload_n 2, 1) := by decide +kernel
theorem dX1_init_84 : decode cX1_init 84 = .ok (.putfield 48, 3) := by decide +kernel
theorem dX1_init_87 : decode cX1_init 87 = .ok (.return_, 1) := by decide +kernel
abbrev M_X1_init : mM := (cX1_init, 3, RX1, none, true, 2, 50, 12, 1807)
theorem gX1_init : cN yX1_init M_X1_init 2 := ⟨(wsl_5 _ (List.mem_of_getElem? (i := 17) rfl)), (wsl_2 _ (List.mem_of_getElem? (i := 19) rfl)), (wsl_5 _ (List.mem_of_getElem? (i := 18) rfl)), rfl, rfl, by decide +kernel⟩
noncomputable def fX1_init (n : Int) (h : hH) (a0 a1 a2 : Int) : Option hH :=
  (alc h (n) 13 0).bind fun h5_4 =>
  (fX3_init (n + 1) h5_4 n).bind fun h9_6 =>
  (pput h9_6 a0 2 n).bind fun h12_7 =>
  (alc h12_7 (n + 4) 20 0).bind fun h16_9 =>
  (fX10_init (n + 5) h16_9 (n + 4)).bind fun h20_11 =>
  (pput h20_11 a0 3 (n + 4)).bind fun h23_12 =>
  (alc h23_12 (n + 6) 50 40).bind fun h29_15 =>
  (pput h29_15 a0 11 (n + 6)).bind fun h31_16 =>
  (alc h31_16 (n + 7) 50 40).bind fun h37_19 =>
  (pput h37_19 a0 12 (n + 7)).bind fun h39_20 =>
  (alc h39_20 (n + 8) 50 40).bind fun h45_23 =>
  (pput h45_23 a0 13 (n + 8)).bind fun h47_24 =>
  (alc h47_24 (n + 9) 50 240).bind fun h54_27 =>
  (pput h54_27 a0 14 (n + 9)).bind fun h56_28 =>
  (alc h56_28 (n + 10) 50 160).bind fun h63_31 =>
  (pput h63_31 a0 15 (n + 10)).bind fun h65_32 =>
  (alc h65_32 (n + 11) 50 160).bind fun h72_35 =>
  (pput h72_35 a0 16 (n + 11)).bind fun h74_36 =>
  (pput h74_36 a0 0 a1).bind fun h79_39 =>
  (pput h79_39 a0 1 a2).bind fun h84_42 =>
  some h84_42
set_option maxRecDepth 100000 in
set_option maxHeartbeats 8000000 in
theorem oX1_init_w {p : Program} {l : Launch} {e : Env} {R : Room} {s : State} {m : MethodId} {args : Array Value} {below : List Frame} {meth : Method} {c : Code} {D : va_G} {G : gG} {A : Nat → Prop} {H0 : Heap} {G0 : gG} {n0 : Int} {n : Int} {h r : hH} {a0 a1 a2 : Int} (hr : fX1_init n h a0 a1 a2 = some r) : Wc p l e R s m args below meth c D G G0 A H0 false n0 M_X1_init (none, r) 0 0 0 [(0, (11, a0)), (1, (14, a1)), (2, (18, a2))] [] h := by
  unfold fX1_init at hr
  refine c_aload_n dX1_init_0 rfl 0 rfl (nl rfl) ?_
  refine c_objInit (t := 11) (by decide) (by decide) dX1_init_1 (wsl_5 _ (List.mem_of_getElem? (i := 19) rfl)) (wsl_1 _ (List.mem_of_getElem? (i := 11) rfl)) (wsl_1 _ (List.mem_of_getElem? (i := 12) rfl)) ⟨nl rfl, nl rfl⟩ ?_
  refine c_aload_n dX1_init_4 rfl 0 rfl (nl rfl) ?_
  obtain ⟨h5_4, hg5_4, hr⟩ := bnd hr
  refine c_new 3 (N := 5) dX1_init_5 hg5_4 rfl (by decide) rfl tyX3 tyX3_ok inlX3 (wsl_5 _ (List.mem_of_getElem? (i := 20) rfl)) (wsl_4 _ (List.mem_of_getElem? (i := 4) rfl)) (wsl_4 _ (List.mem_of_getElem? (i := 5) rfl)) ⟨nl rfl, nl rfl⟩ (by decide +kernel) (fun G => ?_)
  refine c_dup dX1_init_8 (Nat.ne_of_beq_eq_false rfl) ?_
  obtain ⟨h9_6, hg9_6, hr⟩ := bnd hr
  refine c_callIN (host := "FollowingRefs") (t := 13) (o := n) (as := []) (rest := [(13, n), (11, a0)]) (X := (none, h9_6)) (oX3_init hg9_6) (by decide) (by decide) gX3_init rfl (List.mem_of_getElem? (i := 3) rfl) rfl dX1_init_9 rfl (fun G => ?_)
  obtain ⟨h12_7, hg12_7, hr⟩ := bnd hr
  refine c_putF 1 2 (t := 13) (ty := (.object "FollowingRefs$Rows")) (ref := "FollowingRefs$Judge") hg12_7 rfl tyX1 tyX1_ok nmX1 rfl (by decide) rfl (by decide) inlX1 (wsl_5 _ (List.mem_of_getElem? (i := 21) rfl)) rfl rfl rfl rfl (by decide +kernel) (by decide) rfl (Or.inr (Or.inr (Or.inr ⟨by decide, Or.inl ⟨_, rfl⟩⟩))) dX1_init_12 ?_
  refine c_aload_n dX1_init_15 rfl 0 rfl (nl rfl) ?_
  obtain ⟨h16_9, hg16_9, hr⟩ := bnd hr
  refine c_new 10 (N := 2) dX1_init_16 hg16_9 rfl (by decide) rfl tyX10 tyX10_ok inlX10 (wsl_5 _ (List.mem_of_getElem? (i := 22) rfl)) (wsl_5 _ (List.mem_of_getElem? (i := 23) rfl)) (wsl_6 _ (List.mem_of_getElem? (i := 0) rfl)) ⟨nl rfl, nl rfl⟩ (by decide +kernel) (fun G => ?_)
  refine c_dup dX1_init_19 (Nat.ne_of_beq_eq_false rfl) ?_
  obtain ⟨h20_11, hg20_11, hr⟩ := bnd hr
  refine c_callIN (host := "FollowingRefs") (t := 20) (o := n + 4) (as := []) (rest := [(20, n + 4), (11, a0)]) (X := (none, h20_11)) (oX10_init hg20_11) (by decide) (by decide) gX10_init rfl (List.mem_of_getElem? (i := 4) rfl) rfl dX1_init_20 rfl (fun G => ?_)
  obtain ⟨h23_12, hg23_12, hr⟩ := bnd hr
  refine c_putF 1 3 (t := 20) (ty := (.object "FollowingRefs$Violations")) (ref := "FollowingRefs$Judge") hg23_12 rfl tyX1 tyX1_ok nmX1 rfl (by decide) rfl (by decide) inlX1 (wsl_6 _ (List.mem_of_getElem? (i := 1) rfl)) rfl rfl rfl rfl (by decide +kernel) (by decide) rfl (Or.inr (Or.inr (Or.inr ⟨by decide, Or.inl ⟨_, rfl⟩⟩))) dX1_init_23 ?_
  refine c_aload_n dX1_init_26 rfl 0 rfl (nl rfl) ?_
  refine c_bipush dX1_init_27 (by decide) (by decide) ?_
  obtain ⟨h29_15, hg29_15, hr⟩ := bnd hr
  refine c_newa dX1_init_29 hg29_15 (wsl_3 _ (List.mem_of_getElem? (i := 2) rfl)) (Or.inl ⟨rfl, rfl⟩) ⟨nl rfl, nl rfl⟩ (fun G => ?_)
  obtain ⟨h31_16, hg31_16, hr⟩ := bnd hr
  refine c_putF 1 11 (t := 50) (ty := (.array .int)) (ref := "FollowingRefs$Judge") hg31_16 rfl tyX1 tyX1_ok nmX1 rfl (by decide) rfl (by decide) inlX1 (wsl_6 _ (List.mem_of_getElem? (i := 2) rfl)) rfl rfl rfl rfl (by decide +kernel) (by decide) rfl (Or.inr (Or.inr (Or.inr ⟨by decide, Or.inr ⟨_, rfl⟩⟩))) dX1_init_31 ?_
  refine c_aload_n dX1_init_34 rfl 0 rfl (nl rfl) ?_
  refine c_bipush dX1_init_35 (by decide) (by decide) ?_
  obtain ⟨h37_19, hg37_19, hr⟩ := bnd hr
  refine c_newa dX1_init_37 hg37_19 (wsl_3 _ (List.mem_of_getElem? (i := 2) rfl)) (Or.inl ⟨rfl, rfl⟩) ⟨nl rfl, nl rfl⟩ (fun G => ?_)
  obtain ⟨h39_20, hg39_20, hr⟩ := bnd hr
  refine c_putF 1 12 (t := 50) (ty := (.array .int)) (ref := "FollowingRefs$Judge") hg39_20 rfl tyX1 tyX1_ok nmX1 rfl (by decide) rfl (by decide) inlX1 (wsl_6 _ (List.mem_of_getElem? (i := 3) rfl)) rfl rfl rfl rfl (by decide +kernel) (by decide) rfl (Or.inr (Or.inr (Or.inr ⟨by decide, Or.inr ⟨_, rfl⟩⟩))) dX1_init_39 ?_
  refine c_aload_n dX1_init_42 rfl 0 rfl (nl rfl) ?_
  refine c_bipush dX1_init_43 (by decide) (by decide) ?_
  obtain ⟨h45_23, hg45_23, hr⟩ := bnd hr
  refine c_newa dX1_init_45 hg45_23 (wsl_3 _ (List.mem_of_getElem? (i := 2) rfl)) (Or.inl ⟨rfl, rfl⟩) ⟨nl rfl, nl rfl⟩ (fun G => ?_)
  obtain ⟨h47_24, hg47_24, hr⟩ := bnd hr
  refine c_putF 1 13 (t := 50) (ty := (.array .int)) (ref := "FollowingRefs$Judge") hg47_24 rfl tyX1 tyX1_ok nmX1 rfl (by decide) rfl (by decide) inlX1 (wsl_6 _ (List.mem_of_getElem? (i := 4) rfl)) rfl rfl rfl rfl (by decide +kernel) (by decide) rfl (Or.inr (Or.inr (Or.inr ⟨by decide, Or.inr ⟨_, rfl⟩⟩))) dX1_init_47 ?_
  refine c_aload_n dX1_init_50 rfl 0 rfl (nl rfl) ?_
  refine c_sipush dX1_init_51 (by decide) (by decide) ?_
  obtain ⟨h54_27, hg54_27, hr⟩ := bnd hr
  refine c_newa dX1_init_54 hg54_27 (wsl_3 _ (List.mem_of_getElem? (i := 2) rfl)) (Or.inl ⟨rfl, rfl⟩) ⟨nl rfl, nl rfl⟩ (fun G => ?_)
  obtain ⟨h56_28, hg56_28, hr⟩ := bnd hr
  refine c_putF 1 14 (t := 50) (ty := (.array .int)) (ref := "FollowingRefs$Judge") hg56_28 rfl tyX1 tyX1_ok nmX1 rfl (by decide) rfl (by decide) inlX1 (wsl_6 _ (List.mem_of_getElem? (i := 5) rfl)) rfl rfl rfl rfl (by decide +kernel) (by decide) rfl (Or.inr (Or.inr (Or.inr ⟨by decide, Or.inr ⟨_, rfl⟩⟩))) dX1_init_56 ?_
  refine c_aload_n dX1_init_59 rfl 0 rfl (nl rfl) ?_
  refine c_sipush dX1_init_60 (by decide) (by decide) ?_
  obtain ⟨h63_31, hg63_31, hr⟩ := bnd hr
  refine c_newa dX1_init_63 hg63_31 (wsl_3 _ (List.mem_of_getElem? (i := 2) rfl)) (Or.inl ⟨rfl, rfl⟩) ⟨nl rfl, nl rfl⟩ (fun G => ?_)
  obtain ⟨h65_32, hg65_32, hr⟩ := bnd hr
  refine c_putF 1 15 (t := 50) (ty := (.array .int)) (ref := "FollowingRefs$Judge") hg65_32 rfl tyX1 tyX1_ok nmX1 rfl (by decide) rfl (by decide) inlX1 (wsl_6 _ (List.mem_of_getElem? (i := 6) rfl)) rfl rfl rfl rfl (by decide +kernel) (by decide) rfl (Or.inr (Or.inr (Or.inr ⟨by decide, Or.inr ⟨_, rfl⟩⟩))) dX1_init_65 ?_
  refine c_aload_n dX1_init_68 rfl 0 rfl (nl rfl) ?_
  refine c_sipush dX1_init_69 (by decide) (by decide) ?_
  obtain ⟨h72_35, hg72_35, hr⟩ := bnd hr
  refine c_newa dX1_init_72 hg72_35 (wsl_3 _ (List.mem_of_getElem? (i := 2) rfl)) (Or.inl ⟨rfl, rfl⟩) ⟨nl rfl, nl rfl⟩ (fun G => ?_)
  obtain ⟨h74_36, hg74_36, hr⟩ := bnd hr
  refine c_putF 1 16 (t := 50) (ty := (.array .int)) (ref := "FollowingRefs$Judge") hg74_36 rfl tyX1 tyX1_ok nmX1 rfl (by decide) rfl (by decide) inlX1 (wsl_6 _ (List.mem_of_getElem? (i := 7) rfl)) rfl rfl rfl rfl (by decide +kernel) (by decide) rfl (Or.inr (Or.inr (Or.inr ⟨by decide, Or.inr ⟨_, rfl⟩⟩))) dX1_init_74 ?_
  refine c_aload_n dX1_init_77 rfl 0 rfl (nl rfl) ?_
  refine c_aload_n dX1_init_78 rfl 1 rfl (nl rfl) ?_
  obtain ⟨h79_39, hg79_39, hr⟩ := bnd hr
  refine c_putF 1 0 (t := 14) (ty := (.object "FollowingRefs$Schema")) (ref := "FollowingRefs$Judge") hg79_39 rfl tyX1 tyX1_ok nmX1 rfl (by decide) rfl (by decide) inlX1 (wsl_6 _ (List.mem_of_getElem? (i := 8) rfl)) rfl rfl rfl rfl (by decide +kernel) (by decide) rfl (Or.inr (Or.inr (Or.inr ⟨by decide, Or.inl ⟨_, rfl⟩⟩))) dX1_init_79 ?_
  refine c_aload_n dX1_init_82 rfl 0 rfl (nl rfl) ?_
  refine c_aload_n dX1_init_83 rfl 2 rfl (nl rfl) ?_
  obtain ⟨h84_42, hg84_42, hr⟩ := bnd hr
  refine c_putF 1 1 (t := 18) (ty := (.object "FollowingRefs$State")) (ref := "FollowingRefs$Judge") hg84_42 rfl tyX1 tyX1_ok nmX1 rfl (by decide) rfl (by decide) inlX1 (wsl_6 _ (List.mem_of_getElem? (i := 9) rfl)) rfl rfl rfl rfl (by decide +kernel) (by decide) rfl (Or.inr (Or.inr (Or.inr ⟨by decide, Or.inl ⟨_, rfl⟩⟩))) dX1_init_84 ?_
  obtain rfl := Option.some.inj hr
  exact c_vret dX1_init_87 rfl rfl ⟨rfl, rfl⟩
theorem oX1_init {l : Launch} {D : va_G} {n : Int} {h r : hH} {a0 a1 a2 : Int} (hr : fX1_init n h a0 a1 a2 = some r) : Ctc l D yX1_init M_X1_init [(11, a0), (14, a1), (18, a2)] h (none, r) := Ctc_of (by decide) rfl (fun _ => rfl) (nl rfl) (fun {p e R s m args below meth c G A H0} => oX1_init_w hr)
/-! X0_init -/
theorem dX0_init_0 : decode cX0_init 0 = .ok (.aload_n 0, 1) := by decide +kernel
theorem dX0_init_1 : decode cX0_init 1 = .ok (.invokespecial 1, 3) := by decide +kernel
theorem dX0_init_4 : decode cX0_init 4 = .ok (.aload_n 0, 1) := by decide +kernel
theorem dX0_init_5 : decode cX0_init 5 = .ok (.new 7, 3) := by decide +kernel
theorem dX0_init_8 : decode cX0_init 8 = .ok (.dup, 1) := by decide +kernel
theorem dX0_init_9 : decode cX0_init 9 = .ok (.invokespecial 9, 3) := by decide +kernel
theorem dX0_init_12 : decode cX0_init 12 = .ok (.putfield 10, 3) := by decide +kernel
theorem dX0_init_15 : decode cX0_init 15 = .ok (.aload_n 0, 1) := by decide +kernel
theorem dX0_init_16 : decode cX0_init 16 = .ok (.new 16, 3) := by decide +kernel
theorem dX0_init_19 : decode cX0_init 19 = .ok (.dup, 1) := by decide +kernel
theorem dX0_init_20 : decode cX0_init 20 = .ok (.invokespecial 18, 3) := by decide +kernel
theorem dX0_init_23 : decode cX0_init 23 = .ok (.putfield 19, 3) := by decide +kernel
theorem dX0_init_26 : decode cX0_init 26 = .ok (.aload_n 0, 1) := by decide +kernel
theorem dX0_init_27 : decode cX0_init 27 = .ok (.new 23, 3) := by decide +kernel
theorem dX0_init_30 : decode cX0_init 30 = .ok (.dup, 1) := by decide +kernel
theorem dX0_init_31 : decode cX0_init 31 = .ok (.invokespecial 25, 3) := by decide +kernel
theorem dX0_init_34 : decode cX0_init 34 = .ok (.putfield 26, 3) := by decide +kernel
theorem dX0_init_37 : decode cX0_init 37 = .ok (.return_, 1) := by decide +kernel
abbrev M_X0_init : mM := (cX0_init, 1, RX0, none, true, 3, 70, 20, 793)
theorem gX0_init : cN yX0_init M_X0_init 0 := ⟨(wsl_6 _ (List.mem_of_getElem? (i := 14) rfl)), (wsl_3 _ (List.mem_of_getElem? (i := 7) rfl)), (wsl_6 _ (List.mem_of_getElem? (i := 15) rfl)), rfl, rfl, by decide +kernel⟩
noncomputable def fX0_init (n : Int) (h : hH) (a0 : Int) : Option hH :=
  (alc h (n) 14 0).bind fun h5_4 =>
  (fX4_init (n + 1) h5_4 n).bind fun h9_6 =>
  (pput h9_6 a0 1 n).bind fun h12_7 =>
  (alc h12_7 (n + 9) 18 0).bind fun h16_9 =>
  (fX8_init (n + 10) h16_9 (n + 9)).bind fun h20_11 =>
  (pput h20_11 a0 2 (n + 9)).bind fun h23_12 =>
  (alc h23_12 (n + 18) 16 0).bind fun h27_14 =>
  (fX6_init (n + 19) h27_14 (n + 18)).bind fun h31_16 =>
  (pput h31_16 a0 3 (n + 18)).bind fun h34_17 =>
  some h34_17
set_option maxRecDepth 100000 in
set_option maxHeartbeats 8000000 in
theorem oX0_init_w {p : Program} {l : Launch} {e : Env} {R : Room} {s : State} {m : MethodId} {args : Array Value} {below : List Frame} {meth : Method} {c : Code} {D : va_G} {G : gG} {A : Nat → Prop} {H0 : Heap} {G0 : gG} {n0 : Int} {n : Int} {h r : hH} {a0 : Int} (hr : fX0_init n h a0 = some r) : Wc p l e R s m args below meth c D G G0 A H0 false n0 M_X0_init (none, r) 0 0 0 [(0, (10, a0))] [] h := by
  unfold fX0_init at hr
  refine c_aload_n dX0_init_0 rfl 0 rfl (nl rfl) ?_
  refine c_objInit (t := 10) (by decide) (by decide) dX0_init_1 (wsl_6 _ (List.mem_of_getElem? (i := 16) rfl)) (wsl_1 _ (List.mem_of_getElem? (i := 11) rfl)) (wsl_1 _ (List.mem_of_getElem? (i := 12) rfl)) ⟨nl rfl, nl rfl⟩ ?_
  refine c_aload_n dX0_init_4 rfl 0 rfl (nl rfl) ?_
  obtain ⟨h5_4, hg5_4, hr⟩ := bnd hr
  refine c_new 4 (N := 12) dX0_init_5 hg5_4 rfl (by decide) rfl tyX4 tyX4_ok inlX4 (wsl_6 _ (List.mem_of_getElem? (i := 17) rfl)) (wsl_1 _ (List.mem_of_getElem? (i := 18) rfl)) (wsl_1 _ (List.mem_of_getElem? (i := 19) rfl)) ⟨nl rfl, nl rfl⟩ (by decide +kernel) (fun G => ?_)
  refine c_dup dX0_init_8 (Nat.ne_of_beq_eq_false rfl) ?_
  obtain ⟨h9_6, hg9_6, hr⟩ := bnd hr
  refine c_callIN (host := "FollowingRefs") (t := 14) (o := n) (as := []) (rest := [(14, n), (10, a0)]) (X := (none, h9_6)) (oX4_init hg9_6) (by decide) (by decide) gX4_init rfl (List.mem_of_getElem? (i := 0) rfl) rfl dX0_init_9 rfl (fun G => ?_)
  obtain ⟨h12_7, hg12_7, hr⟩ := bnd hr
  refine c_putF 0 1 (t := 14) (ty := (.object "FollowingRefs$Schema")) (ref := "FollowingRefs$Image") hg12_7 rfl tyX0 tyX0_ok nmX0 rfl (by decide) rfl (by decide) inlX0 (wsl_6 _ (List.mem_of_getElem? (i := 18) rfl)) rfl rfl rfl rfl (by decide +kernel) (by decide) rfl (Or.inr (Or.inr (Or.inr ⟨by decide, Or.inl ⟨_, rfl⟩⟩))) dX0_init_12 ?_
  refine c_aload_n dX0_init_15 rfl 0 rfl (nl rfl) ?_
  obtain ⟨h16_9, hg16_9, hr⟩ := bnd hr
  refine c_new 8 (N := 3) dX0_init_16 hg16_9 rfl (by decide) rfl tyX8 tyX8_ok inlX8 (wsl_6 _ (List.mem_of_getElem? (i := 19) rfl)) (wsl_1 _ (List.mem_of_getElem? (i := 22) rfl)) (wsl_1 _ (List.mem_of_getElem? (i := 23) rfl)) ⟨nl rfl, nl rfl⟩ (by decide +kernel) (fun G => ?_)
  refine c_dup dX0_init_19 (Nat.ne_of_beq_eq_false rfl) ?_
  obtain ⟨h20_11, hg20_11, hr⟩ := bnd hr
  refine c_callIN (host := "FollowingRefs") (t := 18) (o := n + 9) (as := []) (rest := [(18, n + 9), (10, a0)]) (X := (none, h20_11)) (oX8_init hg20_11) (by decide) (by decide) gX8_init rfl (List.mem_of_getElem? (i := 1) rfl) rfl dX0_init_20 rfl (fun G => ?_)
  obtain ⟨h23_12, hg23_12, hr⟩ := bnd hr
  refine c_putF 0 2 (t := 18) (ty := (.object "FollowingRefs$State")) (ref := "FollowingRefs$Image") hg23_12 rfl tyX0 tyX0_ok nmX0 rfl (by decide) rfl (by decide) inlX0 (wsl_6 _ (List.mem_of_getElem? (i := 20) rfl)) rfl rfl rfl rfl (by decide +kernel) (by decide) rfl (Or.inr (Or.inr (Or.inr ⟨by decide, Or.inl ⟨_, rfl⟩⟩))) dX0_init_23 ?_
  refine c_aload_n dX0_init_26 rfl 0 rfl (nl rfl) ?_
  obtain ⟨h27_14, hg27_14, hr⟩ := bnd hr
  refine c_new 6 (N := 4) dX0_init_27 hg27_14 rfl (by decide) rfl tyX6 tyX6_ok inlX6 (wsl_6 _ (List.mem_of_getElem? (i := 21) rfl)) (wsl_2 _ (List.mem_of_getElem? (i := 2) rfl)) (wsl_2 _ (List.mem_of_getElem? (i := 3) rfl)) ⟨nl rfl, nl rfl⟩ (by decide +kernel) (fun G => ?_)
  refine c_dup dX0_init_30 (Nat.ne_of_beq_eq_false rfl) ?_
  obtain ⟨h31_16, hg31_16, hr⟩ := bnd hr
  refine c_callIN (host := "FollowingRefs") (t := 16) (o := n + 18) (as := []) (rest := [(16, n + 18), (10, a0)]) (X := (none, h31_16)) (oX6_init hg31_16) (by decide) (by decide) gX6_init rfl (List.mem_of_getElem? (i := 2) rfl) rfl dX0_init_31 rfl (fun G => ?_)
  obtain ⟨h34_17, hg34_17, hr⟩ := bnd hr
  refine c_putF 0 3 (t := 16) (ty := (.object "FollowingRefs$Sentence")) (ref := "FollowingRefs$Image") hg34_17 rfl tyX0 tyX0_ok nmX0 rfl (by decide) rfl (by decide) inlX0 (wsl_6 _ (List.mem_of_getElem? (i := 22) rfl)) rfl rfl rfl rfl (by decide +kernel) (by decide) rfl (Or.inr (Or.inr (Or.inr ⟨by decide, Or.inl ⟨_, rfl⟩⟩))) dX0_init_34 ?_
  obtain rfl := Option.some.inj hr
  exact c_vret dX0_init_37 rfl rfl ⟨rfl, rfl⟩
theorem oX0_init {l : Launch} {D : va_G} {n : Int} {h r : hH} {a0 : Int} (hr : fX0_init n h a0 = some r) : Ctc l D yX0_init M_X0_init [(10, a0)] h (none, r) := Ctc_of (by decide) rfl (fun _ => rfl) (nl rfl) (fun {p e R s m args below meth c G A H0} => oX0_init_w hr)
/-! X12_init -/
theorem dX12_init_0 : decode cX12_init 0 = .ok (.aload_n 0, 1) := by decide +kernel
theorem dX12_init_1 : decode cX12_init 1 = .ok (.invokespecial 27, 3) := by decide +kernel
theorem dX12_init_4 : decode cX12_init 4 = .ok (.aload_n 0, 1) := by decide +kernel
theorem dX12_init_5 : decode cX12_init 5 = .ok (.sipush 940, 3) := by decide +kernel
theorem dX12_init_8 : decode cX12_init 8 = .ok (.newarray .byte, 2) := by decide +kernel
theorem dX12_init_10 : decode cX12_init 10 = .ok (.putfield 14, 3) := by decide +kernel
theorem dX12_init_13 : decode cX12_init 13 = .ok (.aload_n 0, 1) := by decide +kernel
theorem dX12_init_14 : decode cX12_init 14 = .ok (.sipush 1420, 3) := by decide +kernel
theorem dX12_init_17 : decode cX12_init 17 = .ok (.newarray .int, 2) := by decide +kernel
theorem dX12_init_19 : decode cX12_init 19 = .ok (.putfield 33, 3) := by decide +kernel
theorem dX12_init_22 : decode cX12_init 22 = .ok (.aload_n 0, 1) := by decide +kernel
theorem dX12_init_23 : decode cX12_init 23 = .ok (.sipush 148, 3) := by decide +kernel
theorem dX12_init_26 : decode cX12_init 26 = .ok (.newarray .int, 2) := by decide +kernel
theorem dX12_init_28 : decode cX12_init 28 = .ok (.putfield 37, 3) := by decide +kernel
theorem dX12_init_31 : decode cX12_init 31 = .ok (.aload_n 0, 1) := by decide +kernel
theorem dX12_init_32 : decode cX12_init 32 = .ok (.sipush 135, 3) := by decide +kernel
theorem dX12_init_35 : decode cX12_init 35 = .ok (.newarray .int, 2) := by decide +kernel
theorem dX12_init_37 : decode cX12_init 37 = .ok (.putfield 40, 3) := by decide +kernel
theorem dX12_init_40 : decode cX12_init 40 = .ok (.aload_n 0, 1) := by decide +kernel
theorem dX12_init_41 : decode cX12_init 41 = .ok (.sipush 800, 3) := by decide +kernel
theorem dX12_init_44 : decode cX12_init 44 = .ok (.newarray .int, 2) := by decide +kernel
theorem dX12_init_46 : decode cX12_init 46 = .ok (.putfield 43, 3) := by decide +kernel
theorem dX12_init_49 : decode cX12_init 49 = .ok (.aload_n 0, 1) := by decide +kernel
theorem dX12_init_50 : decode cX12_init 50 = .ok (.bipush 40, 2) := by decide +kernel
theorem dX12_init_52 : decode cX12_init 52 = .ok (.newarray .long, 2) := by decide +kernel
theorem dX12_init_54 : decode cX12_init 54 = .ok (.putfield 46, 3) := by decide +kernel
theorem dX12_init_57 : decode cX12_init 57 = .ok (.aload_n 0, 1) := by decide +kernel
theorem dX12_init_58 : decode cX12_init 58 = .ok (.bipush 29, 2) := by decide +kernel
theorem dX12_init_60 : decode cX12_init 60 = .ok (.newarray .long, 2) := by decide +kernel
theorem dX12_init_62 : decode cX12_init 62 = .ok (.putfield 50, 3) := by decide +kernel
theorem dX12_init_65 : decode cX12_init 65 = .ok (.aload_n 0, 1) := by decide +kernel
theorem dX12_init_66 : decode cX12_init 66 = .ok (.sipush 960, 3) := by decide +kernel
theorem dX12_init_69 : decode cX12_init 69 = .ok (.newarray .int, 2) := by decide +kernel
theorem dX12_init_71 : decode cX12_init 71 = .ok (.putfield 53, 3) := by decide +kernel
theorem dX12_init_74 : decode cX12_init 74 = .ok (.aload_n 0, 1) := by decide +kernel
theorem dX12_init_75 : decode cX12_init 75 = .ok (.sipush 960, 3) := by decide +kernel
theorem dX12_init_78 : decode cX12_init 78 = .ok (.newarray .int, 2) := by decide +kernel
theorem dX12_init_80 : decode cX12_init 80 = .ok (.putfield 56, 3) := by decide +kernel
theorem dX12_init_83 : decode cX12_init 83 = .ok (.aload_n 0, 1) := by decide +kernel
theorem dX12_init_84 : decode cX12_init 84 = .ok (.sipush 960, 3) := by decide +kernel
theorem dX12_init_87 : decode cX12_init 87 = .ok (.newarray .int, 2) := by decide +kernel
theorem dX12_init_89 : decode cX12_init 89 = .ok (.putfield 59, 3) := by decide +kernel
theorem dX12_init_92 : decode cX12_init 92 = .ok (.aload_n 0, 1) := by decide +kernel
theorem dX12_init_93 : decode cX12_init 93 = .ok (.sipush 396, 3) := by decide +kernel
theorem dX12_init_96 : decode cX12_init 96 = .ok (.newarray .int, 2) := by decide +kernel
theorem dX12_init_98 : decode cX12_init 98 = .ok (.putfield 62, 3) := by decide +kernel
theorem dX12_init_101 : decode cX12_init 101 = .ok (.aload_n 0, 1) := by decide +kernel
theorem dX12_init_102 : decode cX12_init 102 = .ok (.sipush 594, 3) := by decide +kernel
theorem dX12_init_105 : decode cX12_init 105 = .ok (.newarray .int, 2) := by decide +kernel
theorem dX12_init_107 : decode cX12_init 107 = .ok (.putfield 65, 3) := by decide +kernel
theorem dX12_init_110 : decode cX12_init 110 = .ok (.aload_n 0, 1) := by decide +kernel
theorem dX12_init_111 : decode cX12_init 111 = .ok (.bipush 99, 2) := by decide +kernel
theorem dX12_init_113 : decode cX12_init 113 = .ok (.newarray .int, 2) := by decide +kernel
theorem dX12_init_115 : decode cX12_init 115 = .ok (.putfield 68, 3) := by decide +kernel
theorem dX12_init_118 : decode cX12_init 118 = .ok (.aload_n 0, 1) := by decide +kernel
theorem dX12_init_119 : decode cX12_init 119 = .ok (.sipush 1091, 3) := by decide +kernel
theorem dX12_init_122 : decode cX12_init 122 = .ok (.newarray .int, 2) := by decide +kernel
theorem dX12_init_124 : decode cX12_init 124 = .ok (.putfield 71, 3) := by decide +kernel
theorem dX12_init_127 : decode cX12_init 127 = .ok (.aload_n 0, 1) := by decide +kernel
theorem dX12_init_128 : decode cX12_init 128 = .ok (.iconst 4, 1) := by decide +kernel
theorem dX12_init_129 : decode cX12_init 129 = .ok (.newarray .int, 2) := by decide +kernel
theorem dX12_init_131 : decode cX12_init 131 = .ok (.putfield 74, 3) := by decide +kernel
theorem dX12_init_134 : decode cX12_init 134 = .ok (.aload_n 0, 1) := by decide +kernel
theorem dX12_init_135 : decode cX12_init 135 = .ok (.bipush 99, 2) := by decide +kernel
theorem dX12_init_137 : decode cX12_init 137 = .ok (.newarray .int, 2) := by decide +kernel
theorem dX12_init_139 : decode cX12_init 139 = .ok (.putfield 77, 3) := by decide +kernel
theorem dX12_init_142 : decode cX12_init 142 = .ok (.aload_n 0, 1) := by decide +kernel
theorem dX12_init_143 : decode cX12_init 143 = .ok (.sipush 960, 3) := by decide +kernel
theorem dX12_init_146 : decode cX12_init 146 = .ok (.newarray .int, 2) := by decide +kernel
theorem dX12_init_148 : decode cX12_init 148 = .ok (.putfield 80, 3) := by decide +kernel
theorem dX12_init_151 : decode cX12_init 151 = .ok (.aload_n 0, 1) := by decide +kernel
theorem dX12_init_152 : decode cX12_init 152 = .ok (.sipush 960, 3) := by decide +kernel
theorem dX12_init_155 : decode cX12_init 155 = .ok (.newarray .int, 2) := by decide +kernel
theorem dX12_init_157 : decode cX12_init 157 = .ok (.putfield 83, 3) := by decide +kernel
theorem dX12_init_160 : decode cX12_init 160 = .ok (.aload_n 0, 1) := by decide +kernel
theorem dX12_init_161 : decode cX12_init 161 = .ok (.sipush 960, 3) := by decide +kernel
theorem dX12_init_164 : decode cX12_init 164 = .ok (.newarray .int, 2) := by decide +kernel
theorem dX12_init_166 : decode cX12_init 166 = .ok (.putfield 86, 3) := by decide +kernel
theorem dX12_init_169 : decode cX12_init 169 = .ok (.aload_n 0, 1) := by decide +kernel
theorem dX12_init_170 : decode cX12_init 170 = .ok (.sipush 8728, 3) := by decide +kernel
theorem dX12_init_173 : decode cX12_init 173 = .ok (.newarray .int, 2) := by decide +kernel
theorem dX12_init_175 : decode cX12_init 175 = .ok (.putfield 89, 3) := by decide +kernel
theorem dX12_init_178 : decode cX12_init 178 = .ok (.aload_n 0, 1) := by decide +kernel
theorem dX12_init_179 : decode cX12_init 179 = .ok (.sipush 1091, 3) := by decide +kernel
theorem dX12_init_182 : decode cX12_init 182 = .ok (.newarray .int, 2) := by decide +kernel
theorem dX12_init_184 : decode cX12_init 184 = .ok (.putfield 92, 3) := by decide +kernel
theorem dX12_init_187 : decode cX12_init 187 = .ok (.aload_n 0, 1) := by decide +kernel
theorem dX12_init_188 : decode cX12_init 188 = .ok (.iconst 4, 1) := by decide +kernel
theorem dX12_init_189 : decode cX12_init 189 = .ok (.newarray .int, 2) := by decide +kernel
theorem dX12_init_191 : decode cX12_init 191 = .ok (.putfield 95, 3) := by decide +kernel
theorem dX12_init_194 : decode cX12_init 194 = .ok (.aload_n 0, 1) := by decide +kernel
theorem dX12_init_195 : decode cX12_init 195 = .ok (.iconst 4, 1) := by decide +kernel
theorem dX12_init_196 : decode cX12_init 196 = .ok (.newarray .int, 2) := by decide +kernel
theorem dX12_init_198 : decode cX12_init 198 = .ok (.putfield 98, 3) := by decide +kernel
theorem dX12_init_201 : decode cX12_init 201 = .ok (.aload_n 0, 1) := by decide +kernel
theorem dX12_init_202 : decode cX12_init 202 = .ok (.iconst (-1), 1) := by decide +kernel
theorem dX12_init_203 : decode cX12_init 203 = .ok (.putfield 101, 3) := by decide +kernel
theorem dX12_init_206 : decode cX12_init 206 = .ok (.aload_n 0, 1) := by decide +kernel
theorem dX12_init_207 : decode cX12_init 207 = .ok (.bipush 30, 2) := by decide +kernel
theorem dX12_init_209 : decode cX12_init 209 = .ok (.newarray .byte, 2) := by decide +kernel
theorem dX12_init_211 : decode cX12_init 211 = .ok (.putfield 104, 3) := by decide +kernel
theorem dX12_init_214 : decode cX12_init 214 = .ok (.aload_n 0, 1) := by decide +kernel
theorem dX12_init_215 : decode cX12_init 215 = .ok (.iconst 4, 1) := by decide +kernel
theorem dX12_init_216 : decode cX12_init 216 = .ok (.newarray .int, 2) := by decide +kernel
theorem dX12_init_218 : decode cX12_init 218 = .ok (.putfield 107, 3) := by decide +kernel
theorem dX12_init_221 : decode cX12_init 221 = .ok (.aload_n 0, 1) := by decide +kernel
theorem dX12_init_222 : decode cX12_init 222 = .ok (.sipush 1091, 3) := by decide +kernel
theorem dX12_init_225 : decode cX12_init 225 = .ok (.newarray .int, 2) := by decide +kernel
theorem dX12_init_227 : decode cX12_init 227 = .ok (.putfield 110, 3) := by decide +kernel
theorem dX12_init_230 : decode cX12_init 230 = .ok (.aload_n 0, 1) := by decide +kernel
theorem dX12_init_231 : decode cX12_init 231 = .ok (.bipush 45, 2) := by decide +kernel
theorem dX12_init_233 : decode cX12_init 233 = .ok (.newarray .int, 2) := by decide +kernel
theorem dX12_init_235 : decode cX12_init 235 = .ok (.putfield 113, 3) := by decide +kernel
theorem dX12_init_238 : decode cX12_init 238 = .ok (.aload_n 0, 1) := by decide +kernel
theorem dX12_init_239 : decode cX12_init 239 = .ok (.bipush 45, 2) := by decide +kernel
theorem dX12_init_241 : decode cX12_init 241 = .ok (.newarray .boolean, 2) := by decide +kernel
theorem dX12_init_243 : decode cX12_init 243 = .ok (.putfield 116, 3) := by decide +kernel
theorem dX12_init_246 : decode cX12_init 246 = .ok (.aload_n 0, 1) := by decide +kernel
theorem dX12_init_247 : decode cX12_init 247 = .ok (.sipush 2840, 3) := by decide +kernel
theorem dX12_init_250 : decode cX12_init 250 = .ok (.newarray .int, 2) := by decide +kernel
theorem dX12_init_252 : decode cX12_init 252 = .ok (.putfield 120, 3) := by decide +kernel
theorem dX12_init_255 : decode cX12_init 255 = .ok (.aload_n 0, 1) := by decide +kernel
theorem dX12_init_256 : decode cX12_init 256 = .ok (.bipush 40, 2) := by decide +kernel
theorem dX12_init_258 : decode cX12_init 258 = .ok (.newarray .long, 2) := by decide +kernel
theorem dX12_init_260 : decode cX12_init 260 = .ok (.putfield 123, 3) := by decide +kernel
theorem dX12_init_263 : decode cX12_init 263 = .ok (.aload_n 0, 1) := by decide +kernel
theorem dX12_init_264 : decode cX12_init 264 = .ok (.iconst 2, 1) := by decide +kernel
theorem dX12_init_265 : decode cX12_init 265 = .ok (.newarray .boolean, 2) := by decide +kernel
theorem dX12_init_267 : decode cX12_init 267 = .ok (.putfield 126, 3) := by decide +kernel
theorem dX12_init_270 : decode cX12_init 270 = .ok (.aload_n 0, 1) := by decide +kernel
theorem dX12_init_271 : decode cX12_init 271 = .ok (.getfield 50, 3) := by decide +kernel
theorem dX12_init_274 : decode cX12_init 274 = .ok (.iconst 0, 1) := by decide +kernel
theorem dX12_init_275 : decode cX12_init 275 = .ok (.ldc2_w 129, 3) := by decide +kernel
theorem dX12_init_278 : decode cX12_init 278 = .ok (.lastore, 1) := by decide +kernel
theorem dX12_init_279 : decode cX12_init 279 = .ok (.aload_n 0, 1) := by decide +kernel
theorem dX12_init_280 : decode cX12_init 280 = .ok (.getfield 50, 3) := by decide +kernel
theorem dX12_init_283 : decode cX12_init 283 = .ok (.iconst 1, 1) := by decide +kernel
theorem dX12_init_284 : decode cX12_init 284 = .ok (.ldc2_w 131, 3) := by decide +kernel
theorem dX12_init_287 : decode cX12_init 287 = .ok (.lastore, 1) := by decide +kernel
theorem dX12_init_288 : decode cX12_init 288 = .ok (.aload_n 0, 1) := by decide +kernel
theorem dX12_init_289 : decode cX12_init 289 = .ok (.getfield 50, 3) := by decide +kernel
theorem dX12_init_292 : decode cX12_init 292 = .ok (.iconst 2, 1) := by decide +kernel
theorem dX12_init_293 : decode cX12_init 293 = .ok (.ldc2_w 133, 3) := by decide +kernel
theorem dX12_init_296 : decode cX12_init 296 = .ok (.lastore, 1) := by decide +kernel
theorem dX12_init_297 : decode cX12_init 297 = .ok (.aload_n 0, 1) := by decide +kernel
theorem dX12_init_298 : decode cX12_init 298 = .ok (.getfield 50, 3) := by decide +kernel
theorem dX12_init_301 : decode cX12_init 301 = .ok (.iconst 3, 1) := by decide +kernel
theorem dX12_init_302 : decode cX12_init 302 = .ok (.ldc2_w 135, 3) := by decide +kernel
theorem dX12_init_305 : decode cX12_init 305 = .ok (.lastore, 1) := by decide +kernel
theorem dX12_init_306 : decode cX12_init 306 = .ok (.aload_n 0, 1) := by decide +kernel
theorem dX12_init_307 : decode cX12_init 307 = .ok (.getfield 50, 3) := by decide +kernel
theorem dX12_init_310 : decode cX12_init 310 = .ok (.iconst 4, 1) := by decide +kernel
theorem dX12_init_311 : decode cX12_init 311 = .ok (.ldc2_w 137, 3) := by decide +kernel
theorem dX12_init_314 : decode cX12_init 314 = .ok (.lastore, 1) := by decide +kernel
theorem dX12_init_315 : decode cX12_init 315 = .ok (.aload_n 0, 1) := by decide +kernel
theorem dX12_init_316 : decode cX12_init 316 = .ok (.getfield 50, 3) := by decide +kernel
theorem dX12_init_319 : decode cX12_init 319 = .ok (.iconst 5, 1) := by decide +kernel
theorem dX12_init_320 : decode cX12_init 320 = .ok (.ldc2_w 139, 3) := by decide +kernel
theorem dX12_init_323 : decode cX12_init 323 = .ok (.lastore, 1) := by decide +kernel
theorem dX12_init_324 : decode cX12_init 324 = .ok (.aload_n 0, 1) := by decide +kernel
theorem dX12_init_325 : decode cX12_init 325 = .ok (.getfield 50, 3) := by decide +kernel
theorem dX12_init_328 : decode cX12_init 328 = .ok (.bipush 6, 2) := by decide +kernel
theorem dX12_init_330 : decode cX12_init 330 = .ok (.ldc2_w 141, 3) := by decide +kernel
theorem dX12_init_333 : decode cX12_init 333 = .ok (.lastore, 1) := by decide +kernel
theorem dX12_init_334 : decode cX12_init 334 = .ok (.aload_n 0, 1) := by decide +kernel
theorem dX12_init_335 : decode cX12_init 335 = .ok (.getfield 50, 3) := by decide +kernel
theorem dX12_init_338 : decode cX12_init 338 = .ok (.bipush 7, 2) := by decide +kernel
theorem dX12_init_340 : decode cX12_init 340 = .ok (.ldc2_w 143, 3) := by decide +kernel
theorem dX12_init_343 : decode cX12_init 343 = .ok (.lastore, 1) := by decide +kernel
theorem dX12_init_344 : decode cX12_init 344 = .ok (.aload_n 0, 1) := by decide +kernel
theorem dX12_init_345 : decode cX12_init 345 = .ok (.getfield 50, 3) := by decide +kernel
theorem dX12_init_348 : decode cX12_init 348 = .ok (.bipush 8, 2) := by decide +kernel
theorem dX12_init_350 : decode cX12_init 350 = .ok (.ldc2_w 145, 3) := by decide +kernel
theorem dX12_init_353 : decode cX12_init 353 = .ok (.lastore, 1) := by decide +kernel
theorem dX12_init_354 : decode cX12_init 354 = .ok (.aload_n 0, 1) := by decide +kernel
theorem dX12_init_355 : decode cX12_init 355 = .ok (.getfield 50, 3) := by decide +kernel
theorem dX12_init_358 : decode cX12_init 358 = .ok (.bipush 9, 2) := by decide +kernel
theorem dX12_init_360 : decode cX12_init 360 = .ok (.ldc2_w 147, 3) := by decide +kernel
theorem dX12_init_363 : decode cX12_init 363 = .ok (.lastore, 1) := by decide +kernel
theorem dX12_init_364 : decode cX12_init 364 = .ok (.aload_n 0, 1) := by decide +kernel
theorem dX12_init_365 : decode cX12_init 365 = .ok (.getfield 50, 3) := by decide +kernel
theorem dX12_init_368 : decode cX12_init 368 = .ok (.bipush 10, 2) := by decide +kernel
theorem dX12_init_370 : decode cX12_init 370 = .ok (.ldc2_w 149, 3) := by decide +kernel
theorem dX12_init_373 : decode cX12_init 373 = .ok (.lastore, 1) := by decide +kernel
theorem dX12_init_374 : decode cX12_init 374 = .ok (.aload_n 0, 1) := by decide +kernel
theorem dX12_init_375 : decode cX12_init 375 = .ok (.getfield 50, 3) := by decide +kernel
theorem dX12_init_378 : decode cX12_init 378 = .ok (.bipush 11, 2) := by decide +kernel
theorem dX12_init_380 : decode cX12_init 380 = .ok (.ldc2_w 151, 3) := by decide +kernel
theorem dX12_init_383 : decode cX12_init 383 = .ok (.lastore, 1) := by decide +kernel
theorem dX12_init_384 : decode cX12_init 384 = .ok (.aload_n 0, 1) := by decide +kernel
theorem dX12_init_385 : decode cX12_init 385 = .ok (.getfield 50, 3) := by decide +kernel
theorem dX12_init_388 : decode cX12_init 388 = .ok (.bipush 12, 2) := by decide +kernel
theorem dX12_init_390 : decode cX12_init 390 = .ok (.ldc2_w 153, 3) := by decide +kernel
theorem dX12_init_393 : decode cX12_init 393 = .ok (.lastore, 1) := by decide +kernel
theorem dX12_init_394 : decode cX12_init 394 = .ok (.aload_n 0, 1) := by decide +kernel
theorem dX12_init_395 : decode cX12_init 395 = .ok (.getfield 50, 3) := by decide +kernel
theorem dX12_init_398 : decode cX12_init 398 = .ok (.bipush 13, 2) := by decide +kernel
theorem dX12_init_400 : decode cX12_init 400 = .ok (.ldc2_w 155, 3) := by decide +kernel
theorem dX12_init_403 : decode cX12_init 403 = .ok (.lastore, 1) := by decide +kernel
theorem dX12_init_404 : decode cX12_init 404 = .ok (.aload_n 0, 1) := by decide +kernel
theorem dX12_init_405 : decode cX12_init 405 = .ok (.getfield 50, 3) := by decide +kernel
theorem dX12_init_408 : decode cX12_init 408 = .ok (.bipush 14, 2) := by decide +kernel
theorem dX12_init_410 : decode cX12_init 410 = .ok (.ldc2_w 157, 3) := by decide +kernel
theorem dX12_init_413 : decode cX12_init 413 = .ok (.lastore, 1) := by decide +kernel
theorem dX12_init_414 : decode cX12_init 414 = .ok (.aload_n 0, 1) := by decide +kernel
theorem dX12_init_415 : decode cX12_init 415 = .ok (.getfield 50, 3) := by decide +kernel
theorem dX12_init_418 : decode cX12_init 418 = .ok (.bipush 15, 2) := by decide +kernel
theorem dX12_init_420 : decode cX12_init 420 = .ok (.ldc2_w 159, 3) := by decide +kernel
theorem dX12_init_423 : decode cX12_init 423 = .ok (.lastore, 1) := by decide +kernel
theorem dX12_init_424 : decode cX12_init 424 = .ok (.aload_n 0, 1) := by decide +kernel
theorem dX12_init_425 : decode cX12_init 425 = .ok (.getfield 50, 3) := by decide +kernel
theorem dX12_init_428 : decode cX12_init 428 = .ok (.bipush 16, 2) := by decide +kernel
theorem dX12_init_430 : decode cX12_init 430 = .ok (.ldc2_w 161, 3) := by decide +kernel
theorem dX12_init_433 : decode cX12_init 433 = .ok (.lastore, 1) := by decide +kernel
theorem dX12_init_434 : decode cX12_init 434 = .ok (.aload_n 0, 1) := by decide +kernel
theorem dX12_init_435 : decode cX12_init 435 = .ok (.getfield 50, 3) := by decide +kernel
theorem dX12_init_438 : decode cX12_init 438 = .ok (.bipush 17, 2) := by decide +kernel
theorem dX12_init_440 : decode cX12_init 440 = .ok (.ldc2_w 163, 3) := by decide +kernel
theorem dX12_init_443 : decode cX12_init 443 = .ok (.lastore, 1) := by decide +kernel
theorem dX12_init_444 : decode cX12_init 444 = .ok (.aload_n 0, 1) := by decide +kernel
theorem dX12_init_445 : decode cX12_init 445 = .ok (.getfield 50, 3) := by decide +kernel
theorem dX12_init_448 : decode cX12_init 448 = .ok (.bipush 18, 2) := by decide +kernel
theorem dX12_init_450 : decode cX12_init 450 = .ok (.ldc2_w 165, 3) := by decide +kernel
theorem dX12_init_453 : decode cX12_init 453 = .ok (.lastore, 1) := by decide +kernel
theorem dX12_init_454 : decode cX12_init 454 = .ok (.aload_n 0, 1) := by decide +kernel
theorem dX12_init_455 : decode cX12_init 455 = .ok (.getfield 50, 3) := by decide +kernel
theorem dX12_init_458 : decode cX12_init 458 = .ok (.bipush 19, 2) := by decide +kernel
theorem dX12_init_460 : decode cX12_init 460 = .ok (.ldc2_w 167, 3) := by decide +kernel
theorem dX12_init_463 : decode cX12_init 463 = .ok (.lastore, 1) := by decide +kernel
theorem dX12_init_464 : decode cX12_init 464 = .ok (.aload_n 0, 1) := by decide +kernel
theorem dX12_init_465 : decode cX12_init 465 = .ok (.getfield 50, 3) := by decide +kernel
theorem dX12_init_468 : decode cX12_init 468 = .ok (.bipush 20, 2) := by decide +kernel
theorem dX12_init_470 : decode cX12_init 470 = .ok (.ldc2_w 169, 3) := by decide +kernel
theorem dX12_init_473 : decode cX12_init 473 = .ok (.lastore, 1) := by decide +kernel
theorem dX12_init_474 : decode cX12_init 474 = .ok (.aload_n 0, 1) := by decide +kernel
theorem dX12_init_475 : decode cX12_init 475 = .ok (.getfield 50, 3) := by decide +kernel
theorem dX12_init_478 : decode cX12_init 478 = .ok (.bipush 21, 2) := by decide +kernel
theorem dX12_init_480 : decode cX12_init 480 = .ok (.ldc2_w 171, 3) := by decide +kernel
theorem dX12_init_483 : decode cX12_init 483 = .ok (.lastore, 1) := by decide +kernel
theorem dX12_init_484 : decode cX12_init 484 = .ok (.aload_n 0, 1) := by decide +kernel
theorem dX12_init_485 : decode cX12_init 485 = .ok (.getfield 50, 3) := by decide +kernel
theorem dX12_init_488 : decode cX12_init 488 = .ok (.bipush 22, 2) := by decide +kernel
theorem dX12_init_490 : decode cX12_init 490 = .ok (.ldc2_w 173, 3) := by decide +kernel
theorem dX12_init_493 : decode cX12_init 493 = .ok (.lastore, 1) := by decide +kernel
theorem dX12_init_494 : decode cX12_init 494 = .ok (.aload_n 0, 1) := by decide +kernel
theorem dX12_init_495 : decode cX12_init 495 = .ok (.getfield 50, 3) := by decide +kernel
theorem dX12_init_498 : decode cX12_init 498 = .ok (.bipush 23, 2) := by decide +kernel
theorem dX12_init_500 : decode cX12_init 500 = .ok (.ldc2_w 175, 3) := by decide +kernel
theorem dX12_init_503 : decode cX12_init 503 = .ok (.lastore, 1) := by decide +kernel
theorem dX12_init_504 : decode cX12_init 504 = .ok (.aload_n 0, 1) := by decide +kernel
theorem dX12_init_505 : decode cX12_init 505 = .ok (.getfield 50, 3) := by decide +kernel
theorem dX12_init_508 : decode cX12_init 508 = .ok (.bipush 24, 2) := by decide +kernel
theorem dX12_init_510 : decode cX12_init 510 = .ok (.ldc2_w 177, 3) := by decide +kernel
theorem dX12_init_513 : decode cX12_init 513 = .ok (.lastore, 1) := by decide +kernel
theorem dX12_init_514 : decode cX12_init 514 = .ok (.aload_n 0, 1) := by decide +kernel
theorem dX12_init_515 : decode cX12_init 515 = .ok (.getfield 50, 3) := by decide +kernel
theorem dX12_init_518 : decode cX12_init 518 = .ok (.bipush 25, 2) := by decide +kernel
theorem dX12_init_520 : decode cX12_init 520 = .ok (.ldc2_w 179, 3) := by decide +kernel
theorem dX12_init_523 : decode cX12_init 523 = .ok (.lastore, 1) := by decide +kernel
theorem dX12_init_524 : decode cX12_init 524 = .ok (.aload_n 0, 1) := by decide +kernel
theorem dX12_init_525 : decode cX12_init 525 = .ok (.getfield 50, 3) := by decide +kernel
theorem dX12_init_528 : decode cX12_init 528 = .ok (.bipush 26, 2) := by decide +kernel
theorem dX12_init_530 : decode cX12_init 530 = .ok (.ldc2_w 181, 3) := by decide +kernel
theorem dX12_init_533 : decode cX12_init 533 = .ok (.lastore, 1) := by decide +kernel
theorem dX12_init_534 : decode cX12_init 534 = .ok (.aload_n 0, 1) := by decide +kernel
theorem dX12_init_535 : decode cX12_init 535 = .ok (.getfield 50, 3) := by decide +kernel
theorem dX12_init_538 : decode cX12_init 538 = .ok (.bipush 27, 2) := by decide +kernel
theorem dX12_init_540 : decode cX12_init 540 = .ok (.ldc2_w 183, 3) := by decide +kernel
theorem dX12_init_543 : decode cX12_init 543 = .ok (.lastore, 1) := by decide +kernel
theorem dX12_init_544 : decode cX12_init 544 = .ok (.aload_n 0, 1) := by decide +kernel
theorem dX12_init_545 : decode cX12_init 545 = .ok (.getfield 50, 3) := by decide +kernel
theorem dX12_init_548 : decode cX12_init 548 = .ok (.bipush 28, 2) := by decide +kernel
theorem dX12_init_550 : decode cX12_init 550 = .ok (.ldc2_w 185, 3) := by decide +kernel
theorem dX12_init_553 : decode cX12_init 553 = .ok (.lastore, 1) := by decide +kernel
theorem dX12_init_554 : decode cX12_init 554 = .ok (.return_, 1) := by decide +kernel
abbrev M_X12_init : mM := (cX12_init, 1, RX12, none, true, 1, 30, 31, 25479)
theorem gX12_init : cN yX12_init M_X12_init 0 := ⟨(wsl_7 _ (List.mem_of_getElem? (i := 4) rfl)), (wsl_1 _ (List.mem_of_getElem? (i := 5) rfl)), (wsl_7 _ (List.mem_of_getElem? (i := 5) rfl)), rfl, rfl, by decide +kernel⟩
noncomputable def fX12_init (n : Int) (h : hH) (a0 : Int) : Option hH :=
  (alc h (n) 52 940).bind fun h8_5 =>
  (pput h8_5 a0 1 n).bind fun h10_6 =>
  (alc h10_6 (n + 1) 50 1420).bind fun h17_9 =>
  (pput h17_9 a0 6 (n + 1)).bind fun h19_10 =>
  (alc h19_10 (n + 2) 50 148).bind fun h26_13 =>
  (pput h26_13 a0 7 (n + 2)).bind fun h28_14 =>
  (alc h28_14 (n + 3) 50 135).bind fun h35_17 =>
  (pput h35_17 a0 8 (n + 3)).bind fun h37_18 =>
  (alc h37_18 (n + 4) 50 800).bind fun h44_21 =>
  (pput h44_21 a0 9 (n + 4)).bind fun h46_22 =>
  (alc h46_22 (n + 5) 51 40).bind fun h52_25 =>
  (pput h52_25 a0 10 (n + 5)).bind fun h54_26 =>
  (alc h54_26 (n + 6) 51 29).bind fun h60_29 =>
  (pput h60_29 a0 11 (n + 6)).bind fun h62_30 =>
  (alc h62_30 (n + 7) 50 960).bind fun h69_33 =>
  (pput h69_33 a0 23 (n + 7)).bind fun h71_34 =>
  (alc h71_34 (n + 8) 50 960).bind fun h78_37 =>
  (pput h78_37 a0 24 (n + 8)).bind fun h80_38 =>
  (alc h80_38 (n + 9) 50 960).bind fun h87_41 =>
  (pput h87_41 a0 25 (n + 9)).bind fun h89_42 =>
  (alc h89_42 (n + 10) 50 396).bind fun h96_45 =>
  (pput h96_45 a0 27 (n + 10)).bind fun h98_46 =>
  (alc h98_46 (n + 11) 50 594).bind fun h105_49 =>
  (pput h105_49 a0 28 (n + 11)).bind fun h107_50 =>
  (alc h107_50 (n + 12) 50 99).bind fun h113_53 =>
  (pput h113_53 a0 29 (n + 12)).bind fun h115_54 =>
  (alc h115_54 (n + 13) 50 1091).bind fun h122_57 =>
  (pput h122_57 a0 30 (n + 13)).bind fun h124_58 =>
  (alc h124_58 (n + 14) 50 4).bind fun h129_61 =>
  (pput h129_61 a0 36 (n + 14)).bind fun h131_62 =>
  (alc h131_62 (n + 15) 50 99).bind fun h137_65 =>
  (pput h137_65 a0 37 (n + 15)).bind fun h139_66 =>
  (alc h139_66 (n + 16) 50 960).bind fun h146_69 =>
  (pput h146_69 a0 38 (n + 16)).bind fun h148_70 =>
  (alc h148_70 (n + 17) 50 960).bind fun h155_73 =>
  (pput h155_73 a0 39 (n + 17)).bind fun h157_74 =>
  (alc h157_74 (n + 18) 50 960).bind fun h164_77 =>
  (pput h164_77 a0 40 (n + 18)).bind fun h166_78 =>
  (alc h166_78 (n + 19) 50 8728).bind fun h173_81 =>
  (pput h173_81 a0 43 (n + 19)).bind fun h175_82 =>
  (alc h175_82 (n + 20) 50 1091).bind fun h182_85 =>
  (pput h182_85 a0 45 (n + 20)).bind fun h184_86 =>
  (alc h184_86 (n + 21) 50 4).bind fun h189_89 =>
  (pput h189_89 a0 46 (n + 21)).bind fun h191_90 =>
  (alc h191_90 (n + 22) 50 4).bind fun h196_93 =>
  (pput h196_93 a0 47 (n + 22)).bind fun h198_94 =>
  (pput h198_94 a0 48 (-1)).bind fun h203_97 =>
  (alc h203_97 (n + 23) 52 30).bind fun h209_100 =>
  (pput h209_100 a0 49 (n + 23)).bind fun h211_101 =>
  (alc h211_101 (n + 24) 50 4).bind fun h216_104 =>
  (pput h216_104 a0 53 (n + 24)).bind fun h218_105 =>
  (alc h218_105 (n + 25) 50 1091).bind fun h225_108 =>
  (pput h225_108 a0 54 (n + 25)).bind fun h227_109 =>
  (alc h227_109 (n + 26) 50 45).bind fun h233_112 =>
  (pput h233_112 a0 56 (n + 26)).bind fun h235_113 =>
  (alc h235_113 (n + 27) 53 45).bind fun h241_116 =>
  (pput h241_116 a0 62 (n + 27)).bind fun h243_117 =>
  (alc h243_117 (n + 28) 50 2840).bind fun h250_120 =>
  (pput h250_120 a0 63 (n + 28)).bind fun h252_121 =>
  (alc h252_121 (n + 29) 51 40).bind fun h258_124 =>
  (pput h258_124 a0 64 (n + 29)).bind fun h260_125 =>
  (alc h260_125 (n + 30) 53 2).bind fun h265_128 =>
  (pput h265_128 a0 65 (n + 30)).bind fun h267_129 =>
  (nng (h267_129 a0 11)).bind fun _ =>
  (aput h267_129 (h267_129 a0 11) 0 499850046565).bind fun h278_134 =>
  (nng (h278_134 a0 11)).bind fun _ =>
  (aput h278_134 (h278_134 a0 11) 1 7038329).bind fun h287_139 =>
  (nng (h287_139 a0 11)).bind fun _ =>
  (aput h287_139 (h287_139 a0 11) 2 7497062).bind fun h296_144 =>
  (nng (h296_144 a0 11)).bind fun _ =>
  (aput h296_144 (h296_144 a0 11) 3 29807).bind fun h305_149 =>
  (nng (h305_149 a0 11)).bind fun _ =>
  (aput h305_149 (h305_149 a0 11) 4 125779836236645).bind fun h314_154 =>
  (nng (h314_154 a0 11)).bind fun _ =>
  (aput h314_154 (h314_154 a0 11) 5 112628746448759).bind fun h323_159 =>
  (nng (h323_159 a0 11)).bind fun _ =>
  (aput h323_159 (h323_159 a0 11) 6 427020345714).bind fun h333_164 =>
  (nng (h333_164 a0 11)).bind fun _ =>
  (aput h333_164 (h333_164 a0 11) 7 491328333172).bind fun h343_169 =>
  (nng (h343_169 a0 11)).bind fun _ =>
  (aput h343_169 (h343_169 a0 11) 8 1718971500).bind fun h353_174 =>
  (nng (h353_174 a0 11)).bind fun _ =>
  (aput h353_174 (h353_174 a0 11) 9 1818326117).bind fun h363_179 =>
  (nng (h363_179 a0 11)).bind fun _ =>
  (aput h363_179 (h363_179 a0 11) 10 28258988067220596).bind fun h373_184 =>
  (nng (h373_184 a0 11)).bind fun _ =>
  (aput h373_184 (h373_184 a0 11) 11 1852138852).bind fun h383_189 =>
  (nng (h383_189 a0 11)).bind fun _ =>
  (aput h383_189 (h383_189 a0 11) 12 426953237355).bind fun h393_194 =>
  (nng (h393_194 a0 11)).bind fun _ =>
  (aput h393_194 (h393_194 a0 11) 13 115923103347316).bind fun h403_199 =>
  (nng (h403_199 a0 11)).bind fun _ =>
  (aput h403_199 (h403_199 a0 11) 14 110386773062757).bind fun h413_204 =>
  (nng (h413_204 a0 11)).bind fun _ =>
  (aput h413_204 (h413_204 a0 11) 15 26982).bind fun h423_209 =>
  (nng (h423_209 a0 11)).bind fun _ =>
  (aput h423_209 (h423_209 a0 11) 16 6385252).bind fun h433_214 =>
  (nng (h433_214 a0 11)).bind fun _ =>
  (aput h433_214 (h433_214 a0 11) 17 7562612).bind fun h443_219 =>
  (nng (h443_219 a0 11)).bind fun _ =>
  (aput h443_219 (h443_219 a0 11) 18 422608071022).bind fun h453_224 =>
  (nng (h453_224 a0 11)).bind fun _ =>
  (aput h453_224 (h453_224 a0 11) 19 109330228406644).bind fun h463_229 =>
  (nng (h463_229 a0 11)).bind fun _ =>
  (aput h463_229 (h463_229 a0 11) 20 1650549611).bind fun h473_234 =>
  (nng (h473_234 a0 11)).bind fun _ =>
  (aput h473_234 (h473_234 a0 11) 21 1852796517).bind fun h483_239 =>
  (nng (h483_239 a0 11)).bind fun _ =>
  (aput h483_239 (h483_239 a0 11) 22 28530).bind fun h493_244 =>
  (nng (h493_244 a0 11)).bind fun _ =>
  (aput h493_244 (h493_244 a0 11) 23 7237492).bind fun h503_249 =>
  (nng (h503_249 a0 11)).bind fun _ =>
  (aput h503_249 (h503_249 a0 11) 24 1650553445).bind fun h513_254 =>
  (nng (h513_254 a0 11)).bind fun _ =>
  (aput h513_254 (h513_254 a0 11) 25 461414299502).bind fun h523_259 =>
  (nng (h523_259 a0 11)).bind fun _ =>
  (aput h523_259 (h523_259 a0 11) 26 108243635103086).bind fun h533_264 =>
  (nng (h533_264 a0 11)).bind fun _ =>
  (aput h533_264 (h533_264 a0 11) 27 26990).bind fun h543_269 =>
  (nng (h543_269 a0 11)).bind fun _ =>
  (aput h543_269 (h543_269 a0 11) 28 7499639).bind fun h553_274 =>
  some h553_274
set_option maxRecDepth 100000 in
set_option maxHeartbeats 8000000 in
theorem oX12_init_w {p : Program} {l : Launch} {e : Env} {R : Room} {s : State} {m : MethodId} {args : Array Value} {below : List Frame} {meth : Method} {c : Code} {D : va_G} {G : gG} {A : Nat → Prop} {H0 : Heap} {G0 : gG} {n0 : Int} {n : Int} {h r : hH} {a0 : Int} (hr : fX12_init n h a0 = some r) : Wc p l e R s m args below meth c D G G0 A H0 false n0 M_X12_init (none, r) 0 0 0 [(0, (22, a0))] [] h := by
  unfold fX12_init at hr
  refine c_aload_n dX12_init_0 rfl 0 rfl (nl rfl) ?_
  refine c_objInit (t := 22) (by decide) (by decide) dX12_init_1 (wsl_7 _ (List.mem_of_getElem? (i := 6) rfl)) (wsl_1 _ (List.mem_of_getElem? (i := 11) rfl)) (wsl_1 _ (List.mem_of_getElem? (i := 12) rfl)) ⟨nl rfl, nl rfl⟩ ?_
  refine c_aload_n dX12_init_4 rfl 0 rfl (nl rfl) ?_
  refine c_sipush dX12_init_5 (by decide) (by decide) ?_
  obtain ⟨h8_5, hg8_5, hr⟩ := bnd hr
  refine c_newa dX12_init_8 hg8_5 (wsl_3 _ (List.mem_of_getElem? (i := 4) rfl)) (Or.inr (Or.inr (Or.inl ⟨rfl, rfl⟩))) ⟨nl rfl, nl rfl⟩ (fun G => ?_)
  obtain ⟨h10_6, hg10_6, hr⟩ := bnd hr
  refine c_putF 12 1 (t := 52) (ty := (.array .byte)) (ref := "FollowingRefsModel") hg10_6 rfl tyX12 tyX12_ok nmX12 rfl (by decide) rfl (by decide) inlX12 (wsl_7 _ (List.mem_of_getElem? (i := 7) rfl)) rfl rfl rfl rfl (by decide +kernel) (by decide) rfl (Or.inr (Or.inr (Or.inr ⟨by decide, Or.inr ⟨_, rfl⟩⟩))) dX12_init_10 ?_
  refine c_aload_n dX12_init_13 rfl 0 rfl (nl rfl) ?_
  refine c_sipush dX12_init_14 (by decide) (by decide) ?_
  obtain ⟨h17_9, hg17_9, hr⟩ := bnd hr
  refine c_newa dX12_init_17 hg17_9 (wsl_3 _ (List.mem_of_getElem? (i := 2) rfl)) (Or.inl ⟨rfl, rfl⟩) ⟨nl rfl, nl rfl⟩ (fun G => ?_)
  obtain ⟨h19_10, hg19_10, hr⟩ := bnd hr
  refine c_putF 12 6 (t := 50) (ty := (.array .int)) (ref := "FollowingRefsModel") hg19_10 rfl tyX12 tyX12_ok nmX12 rfl (by decide) rfl (by decide) inlX12 (wsl_7 _ (List.mem_of_getElem? (i := 8) rfl)) rfl rfl rfl rfl (by decide +kernel) (by decide) rfl (Or.inr (Or.inr (Or.inr ⟨by decide, Or.inr ⟨_, rfl⟩⟩))) dX12_init_19 ?_
  refine c_aload_n dX12_init_22 rfl 0 rfl (nl rfl) ?_
  refine c_sipush dX12_init_23 (by decide) (by decide) ?_
  obtain ⟨h26_13, hg26_13, hr⟩ := bnd hr
  refine c_newa dX12_init_26 hg26_13 (wsl_3 _ (List.mem_of_getElem? (i := 2) rfl)) (Or.inl ⟨rfl, rfl⟩) ⟨nl rfl, nl rfl⟩ (fun G => ?_)
  obtain ⟨h28_14, hg28_14, hr⟩ := bnd hr
  refine c_putF 12 7 (t := 50) (ty := (.array .int)) (ref := "FollowingRefsModel") hg28_14 rfl tyX12 tyX12_ok nmX12 rfl (by decide) rfl (by decide) inlX12 (wsl_7 _ (List.mem_of_getElem? (i := 9) rfl)) rfl rfl rfl rfl (by decide +kernel) (by decide) rfl (Or.inr (Or.inr (Or.inr ⟨by decide, Or.inr ⟨_, rfl⟩⟩))) dX12_init_28 ?_
  refine c_aload_n dX12_init_31 rfl 0 rfl (nl rfl) ?_
  refine c_sipush dX12_init_32 (by decide) (by decide) ?_
  obtain ⟨h35_17, hg35_17, hr⟩ := bnd hr
  refine c_newa dX12_init_35 hg35_17 (wsl_3 _ (List.mem_of_getElem? (i := 2) rfl)) (Or.inl ⟨rfl, rfl⟩) ⟨nl rfl, nl rfl⟩ (fun G => ?_)
  obtain ⟨h37_18, hg37_18, hr⟩ := bnd hr
  refine c_putF 12 8 (t := 50) (ty := (.array .int)) (ref := "FollowingRefsModel") hg37_18 rfl tyX12 tyX12_ok nmX12 rfl (by decide) rfl (by decide) inlX12 (wsl_7 _ (List.mem_of_getElem? (i := 10) rfl)) rfl rfl rfl rfl (by decide +kernel) (by decide) rfl (Or.inr (Or.inr (Or.inr ⟨by decide, Or.inr ⟨_, rfl⟩⟩))) dX12_init_37 ?_
  refine c_aload_n dX12_init_40 rfl 0 rfl (nl rfl) ?_
  refine c_sipush dX12_init_41 (by decide) (by decide) ?_
  obtain ⟨h44_21, hg44_21, hr⟩ := bnd hr
  refine c_newa dX12_init_44 hg44_21 (wsl_3 _ (List.mem_of_getElem? (i := 2) rfl)) (Or.inl ⟨rfl, rfl⟩) ⟨nl rfl, nl rfl⟩ (fun G => ?_)
  obtain ⟨h46_22, hg46_22, hr⟩ := bnd hr
  refine c_putF 12 9 (t := 50) (ty := (.array .int)) (ref := "FollowingRefsModel") hg46_22 rfl tyX12 tyX12_ok nmX12 rfl (by decide) rfl (by decide) inlX12 (wsl_7 _ (List.mem_of_getElem? (i := 11) rfl)) rfl rfl rfl rfl (by decide +kernel) (by decide) rfl (Or.inr (Or.inr (Or.inr ⟨by decide, Or.inr ⟨_, rfl⟩⟩))) dX12_init_46 ?_
  refine c_aload_n dX12_init_49 rfl 0 rfl (nl rfl) ?_
  refine c_bipush dX12_init_50 (by decide) (by decide) ?_
  obtain ⟨h52_25, hg52_25, hr⟩ := bnd hr
  refine c_newa dX12_init_52 hg52_25 (wsl_1 _ (List.mem_of_getElem? (i := 6) rfl)) (Or.inr (Or.inl ⟨rfl, rfl⟩)) ⟨nl rfl, nl rfl⟩ (fun G => ?_)
  obtain ⟨h54_26, hg54_26, hr⟩ := bnd hr
  refine c_putF 12 10 (t := 51) (ty := (.array .long)) (ref := "FollowingRefsModel") hg54_26 rfl tyX12 tyX12_ok nmX12 rfl (by decide) rfl (by decide) inlX12 (wsl_7 _ (List.mem_of_getElem? (i := 12) rfl)) rfl rfl rfl rfl (by decide +kernel) (by decide) rfl (Or.inr (Or.inr (Or.inr ⟨by decide, Or.inr ⟨_, rfl⟩⟩))) dX12_init_54 ?_
  refine c_aload_n dX12_init_57 rfl 0 rfl (nl rfl) ?_
  refine c_bipush dX12_init_58 (by decide) (by decide) ?_
  obtain ⟨h60_29, hg60_29, hr⟩ := bnd hr
  refine c_newa dX12_init_60 hg60_29 (wsl_1 _ (List.mem_of_getElem? (i := 6) rfl)) (Or.inr (Or.inl ⟨rfl, rfl⟩)) ⟨nl rfl, nl rfl⟩ (fun G => ?_)
  obtain ⟨h62_30, hg62_30, hr⟩ := bnd hr
  refine c_putF 12 11 (t := 51) (ty := (.array .long)) (ref := "FollowingRefsModel") hg62_30 rfl tyX12 tyX12_ok nmX12 rfl (by decide) rfl (by decide) inlX12 (wsl_7 _ (List.mem_of_getElem? (i := 13) rfl)) rfl rfl rfl rfl (by decide +kernel) (by decide) rfl (Or.inr (Or.inr (Or.inr ⟨by decide, Or.inr ⟨_, rfl⟩⟩))) dX12_init_62 ?_
  refine c_aload_n dX12_init_65 rfl 0 rfl (nl rfl) ?_
  refine c_sipush dX12_init_66 (by decide) (by decide) ?_
  obtain ⟨h69_33, hg69_33, hr⟩ := bnd hr
  refine c_newa dX12_init_69 hg69_33 (wsl_3 _ (List.mem_of_getElem? (i := 2) rfl)) (Or.inl ⟨rfl, rfl⟩) ⟨nl rfl, nl rfl⟩ (fun G => ?_)
  obtain ⟨h71_34, hg71_34, hr⟩ := bnd hr
  refine c_putF 12 23 (t := 50) (ty := (.array .int)) (ref := "FollowingRefsModel") hg71_34 rfl tyX12 tyX12_ok nmX12 rfl (by decide) rfl (by decide) inlX12 (wsl_7 _ (List.mem_of_getElem? (i := 14) rfl)) rfl rfl rfl rfl (by decide +kernel) (by decide) rfl (Or.inr (Or.inr (Or.inr ⟨by decide, Or.inr ⟨_, rfl⟩⟩))) dX12_init_71 ?_
  refine c_aload_n dX12_init_74 rfl 0 rfl (nl rfl) ?_
  refine c_sipush dX12_init_75 (by decide) (by decide) ?_
  obtain ⟨h78_37, hg78_37, hr⟩ := bnd hr
  refine c_newa dX12_init_78 hg78_37 (wsl_3 _ (List.mem_of_getElem? (i := 2) rfl)) (Or.inl ⟨rfl, rfl⟩) ⟨nl rfl, nl rfl⟩ (fun G => ?_)
  obtain ⟨h80_38, hg80_38, hr⟩ := bnd hr
  refine c_putF 12 24 (t := 50) (ty := (.array .int)) (ref := "FollowingRefsModel") hg80_38 rfl tyX12 tyX12_ok nmX12 rfl (by decide) rfl (by decide) inlX12 (wsl_7 _ (List.mem_of_getElem? (i := 15) rfl)) rfl rfl rfl rfl (by decide +kernel) (by decide) rfl (Or.inr (Or.inr (Or.inr ⟨by decide, Or.inr ⟨_, rfl⟩⟩))) dX12_init_80 ?_
  refine c_aload_n dX12_init_83 rfl 0 rfl (nl rfl) ?_
  refine c_sipush dX12_init_84 (by decide) (by decide) ?_
  obtain ⟨h87_41, hg87_41, hr⟩ := bnd hr
  refine c_newa dX12_init_87 hg87_41 (wsl_3 _ (List.mem_of_getElem? (i := 2) rfl)) (Or.inl ⟨rfl, rfl⟩) ⟨nl rfl, nl rfl⟩ (fun G => ?_)
  obtain ⟨h89_42, hg89_42, hr⟩ := bnd hr
  refine c_putF 12 25 (t := 50) (ty := (.array .int)) (ref := "FollowingRefsModel") hg89_42 rfl tyX12 tyX12_ok nmX12 rfl (by decide) rfl (by decide) inlX12 (wsl_7 _ (List.mem_of_getElem? (i := 16) rfl)) rfl rfl rfl rfl (by decide +kernel) (by decide) rfl (Or.inr (Or.inr (Or.inr ⟨by decide, Or.inr ⟨_, rfl⟩⟩))) dX12_init_89 ?_
  refine c_aload_n dX12_init_92 rfl 0 rfl (nl rfl) ?_
  refine c_sipush dX12_init_93 (by decide) (by decide) ?_
  obtain ⟨h96_45, hg96_45, hr⟩ := bnd hr
  refine c_newa dX12_init_96 hg96_45 (wsl_3 _ (List.mem_of_getElem? (i := 2) rfl)) (Or.inl ⟨rfl, rfl⟩) ⟨nl rfl, nl rfl⟩ (fun G => ?_)
  obtain ⟨h98_46, hg98_46, hr⟩ := bnd hr
  refine c_putF 12 27 (t := 50) (ty := (.array .int)) (ref := "FollowingRefsModel") hg98_46 rfl tyX12 tyX12_ok nmX12 rfl (by decide) rfl (by decide) inlX12 (wsl_7 _ (List.mem_of_getElem? (i := 17) rfl)) rfl rfl rfl rfl (by decide +kernel) (by decide) rfl (Or.inr (Or.inr (Or.inr ⟨by decide, Or.inr ⟨_, rfl⟩⟩))) dX12_init_98 ?_
  refine c_aload_n dX12_init_101 rfl 0 rfl (nl rfl) ?_
  refine c_sipush dX12_init_102 (by decide) (by decide) ?_
  obtain ⟨h105_49, hg105_49, hr⟩ := bnd hr
  refine c_newa dX12_init_105 hg105_49 (wsl_3 _ (List.mem_of_getElem? (i := 2) rfl)) (Or.inl ⟨rfl, rfl⟩) ⟨nl rfl, nl rfl⟩ (fun G => ?_)
  obtain ⟨h107_50, hg107_50, hr⟩ := bnd hr
  refine c_putF 12 28 (t := 50) (ty := (.array .int)) (ref := "FollowingRefsModel") hg107_50 rfl tyX12 tyX12_ok nmX12 rfl (by decide) rfl (by decide) inlX12 (wsl_7 _ (List.mem_of_getElem? (i := 18) rfl)) rfl rfl rfl rfl (by decide +kernel) (by decide) rfl (Or.inr (Or.inr (Or.inr ⟨by decide, Or.inr ⟨_, rfl⟩⟩))) dX12_init_107 ?_
  refine c_aload_n dX12_init_110 rfl 0 rfl (nl rfl) ?_
  refine c_bipush dX12_init_111 (by decide) (by decide) ?_
  obtain ⟨h113_53, hg113_53, hr⟩ := bnd hr
  refine c_newa dX12_init_113 hg113_53 (wsl_3 _ (List.mem_of_getElem? (i := 2) rfl)) (Or.inl ⟨rfl, rfl⟩) ⟨nl rfl, nl rfl⟩ (fun G => ?_)
  obtain ⟨h115_54, hg115_54, hr⟩ := bnd hr
  refine c_putF 12 29 (t := 50) (ty := (.array .int)) (ref := "FollowingRefsModel") hg115_54 rfl tyX12 tyX12_ok nmX12 rfl (by decide) rfl (by decide) inlX12 (wsl_7 _ (List.mem_of_getElem? (i := 19) rfl)) rfl rfl rfl rfl (by decide +kernel) (by decide) rfl (Or.inr (Or.inr (Or.inr ⟨by decide, Or.inr ⟨_, rfl⟩⟩))) dX12_init_115 ?_
  refine c_aload_n dX12_init_118 rfl 0 rfl (nl rfl) ?_
  refine c_sipush dX12_init_119 (by decide) (by decide) ?_
  obtain ⟨h122_57, hg122_57, hr⟩ := bnd hr
  refine c_newa dX12_init_122 hg122_57 (wsl_3 _ (List.mem_of_getElem? (i := 2) rfl)) (Or.inl ⟨rfl, rfl⟩) ⟨nl rfl, nl rfl⟩ (fun G => ?_)
  obtain ⟨h124_58, hg124_58, hr⟩ := bnd hr
  refine c_putF 12 30 (t := 50) (ty := (.array .int)) (ref := "FollowingRefsModel") hg124_58 rfl tyX12 tyX12_ok nmX12 rfl (by decide) rfl (by decide) inlX12 (wsl_7 _ (List.mem_of_getElem? (i := 20) rfl)) rfl rfl rfl rfl (by decide +kernel) (by decide) rfl (Or.inr (Or.inr (Or.inr ⟨by decide, Or.inr ⟨_, rfl⟩⟩))) dX12_init_124 ?_
  refine c_aload_n dX12_init_127 rfl 0 rfl (nl rfl) ?_
  refine c_iconst dX12_init_128 (by decide) ?_
  obtain ⟨h129_61, hg129_61, hr⟩ := bnd hr
  refine c_newa dX12_init_129 hg129_61 (wsl_3 _ (List.mem_of_getElem? (i := 2) rfl)) (Or.inl ⟨rfl, rfl⟩) ⟨nl rfl, nl rfl⟩ (fun G => ?_)
  obtain ⟨h131_62, hg131_62, hr⟩ := bnd hr
  refine c_putF 12 36 (t := 50) (ty := (.array .int)) (ref := "FollowingRefsModel") hg131_62 rfl tyX12 tyX12_ok nmX12 rfl (by decide) rfl (by decide) inlX12 (wsl_7 _ (List.mem_of_getElem? (i := 21) rfl)) rfl rfl rfl rfl (by decide +kernel) (by decide) rfl (Or.inr (Or.inr (Or.inr ⟨by decide, Or.inr ⟨_, rfl⟩⟩))) dX12_init_131 ?_
  refine c_aload_n dX12_init_134 rfl 0 rfl (nl rfl) ?_
  refine c_bipush dX12_init_135 (by decide) (by decide) ?_
  obtain ⟨h137_65, hg137_65, hr⟩ := bnd hr
  refine c_newa dX12_init_137 hg137_65 (wsl_3 _ (List.mem_of_getElem? (i := 2) rfl)) (Or.inl ⟨rfl, rfl⟩) ⟨nl rfl, nl rfl⟩ (fun G => ?_)
  obtain ⟨h139_66, hg139_66, hr⟩ := bnd hr
  refine c_putF 12 37 (t := 50) (ty := (.array .int)) (ref := "FollowingRefsModel") hg139_66 rfl tyX12 tyX12_ok nmX12 rfl (by decide) rfl (by decide) inlX12 (wsl_7 _ (List.mem_of_getElem? (i := 22) rfl)) rfl rfl rfl rfl (by decide +kernel) (by decide) rfl (Or.inr (Or.inr (Or.inr ⟨by decide, Or.inr ⟨_, rfl⟩⟩))) dX12_init_139 ?_
  refine c_aload_n dX12_init_142 rfl 0 rfl (nl rfl) ?_
  refine c_sipush dX12_init_143 (by decide) (by decide) ?_
  obtain ⟨h146_69, hg146_69, hr⟩ := bnd hr
  refine c_newa dX12_init_146 hg146_69 (wsl_3 _ (List.mem_of_getElem? (i := 2) rfl)) (Or.inl ⟨rfl, rfl⟩) ⟨nl rfl, nl rfl⟩ (fun G => ?_)
  obtain ⟨h148_70, hg148_70, hr⟩ := bnd hr
  refine c_putF 12 38 (t := 50) (ty := (.array .int)) (ref := "FollowingRefsModel") hg148_70 rfl tyX12 tyX12_ok nmX12 rfl (by decide) rfl (by decide) inlX12 (wsl_7 _ (List.mem_of_getElem? (i := 23) rfl)) rfl rfl rfl rfl (by decide +kernel) (by decide) rfl (Or.inr (Or.inr (Or.inr ⟨by decide, Or.inr ⟨_, rfl⟩⟩))) dX12_init_148 ?_
  refine c_aload_n dX12_init_151 rfl 0 rfl (nl rfl) ?_
  refine c_sipush dX12_init_152 (by decide) (by decide) ?_
  obtain ⟨h155_73, hg155_73, hr⟩ := bnd hr
  refine c_newa dX12_init_155 hg155_73 (wsl_3 _ (List.mem_of_getElem? (i := 2) rfl)) (Or.inl ⟨rfl, rfl⟩) ⟨nl rfl, nl rfl⟩ (fun G => ?_)
  obtain ⟨h157_74, hg157_74, hr⟩ := bnd hr
  refine c_putF 12 39 (t := 50) (ty := (.array .int)) (ref := "FollowingRefsModel") hg157_74 rfl tyX12 tyX12_ok nmX12 rfl (by decide) rfl (by decide) inlX12 (wsl_8 _ (List.mem_of_getElem? (i := 0) rfl)) rfl rfl rfl rfl (by decide +kernel) (by decide) rfl (Or.inr (Or.inr (Or.inr ⟨by decide, Or.inr ⟨_, rfl⟩⟩))) dX12_init_157 ?_
  refine c_aload_n dX12_init_160 rfl 0 rfl (nl rfl) ?_
  refine c_sipush dX12_init_161 (by decide) (by decide) ?_
  obtain ⟨h164_77, hg164_77, hr⟩ := bnd hr
  refine c_newa dX12_init_164 hg164_77 (wsl_3 _ (List.mem_of_getElem? (i := 2) rfl)) (Or.inl ⟨rfl, rfl⟩) ⟨nl rfl, nl rfl⟩ (fun G => ?_)
  obtain ⟨h166_78, hg166_78, hr⟩ := bnd hr
  refine c_putF 12 40 (t := 50) (ty := (.array .int)) (ref := "FollowingRefsModel") hg166_78 rfl tyX12 tyX12_ok nmX12 rfl (by decide) rfl (by decide) inlX12 (wsl_8 _ (List.mem_of_getElem? (i := 1) rfl)) rfl rfl rfl rfl (by decide +kernel) (by decide) rfl (Or.inr (Or.inr (Or.inr ⟨by decide, Or.inr ⟨_, rfl⟩⟩))) dX12_init_166 ?_
  refine c_aload_n dX12_init_169 rfl 0 rfl (nl rfl) ?_
  refine c_sipush dX12_init_170 (by decide) (by decide) ?_
  obtain ⟨h173_81, hg173_81, hr⟩ := bnd hr
  refine c_newa dX12_init_173 hg173_81 (wsl_3 _ (List.mem_of_getElem? (i := 2) rfl)) (Or.inl ⟨rfl, rfl⟩) ⟨nl rfl, nl rfl⟩ (fun G => ?_)
  obtain ⟨h175_82, hg175_82, hr⟩ := bnd hr
  refine c_putF 12 43 (t := 50) (ty := (.array .int)) (ref := "FollowingRefsModel") hg175_82 rfl tyX12 tyX12_ok nmX12 rfl (by decide) rfl (by decide) inlX12 (wsl_8 _ (List.mem_of_getElem? (i := 2) rfl)) rfl rfl rfl rfl (by decide +kernel) (by decide) rfl (Or.inr (Or.inr (Or.inr ⟨by decide, Or.inr ⟨_, rfl⟩⟩))) dX12_init_175 ?_
  refine c_aload_n dX12_init_178 rfl 0 rfl (nl rfl) ?_
  refine c_sipush dX12_init_179 (by decide) (by decide) ?_
  obtain ⟨h182_85, hg182_85, hr⟩ := bnd hr
  refine c_newa dX12_init_182 hg182_85 (wsl_3 _ (List.mem_of_getElem? (i := 2) rfl)) (Or.inl ⟨rfl, rfl⟩) ⟨nl rfl, nl rfl⟩ (fun G => ?_)
  obtain ⟨h184_86, hg184_86, hr⟩ := bnd hr
  refine c_putF 12 45 (t := 50) (ty := (.array .int)) (ref := "FollowingRefsModel") hg184_86 rfl tyX12 tyX12_ok nmX12 rfl (by decide) rfl (by decide) inlX12 (wsl_8 _ (List.mem_of_getElem? (i := 3) rfl)) rfl rfl rfl rfl (by decide +kernel) (by decide) rfl (Or.inr (Or.inr (Or.inr ⟨by decide, Or.inr ⟨_, rfl⟩⟩))) dX12_init_184 ?_
  refine c_aload_n dX12_init_187 rfl 0 rfl (nl rfl) ?_
  refine c_iconst dX12_init_188 (by decide) ?_
  obtain ⟨h189_89, hg189_89, hr⟩ := bnd hr
  refine c_newa dX12_init_189 hg189_89 (wsl_3 _ (List.mem_of_getElem? (i := 2) rfl)) (Or.inl ⟨rfl, rfl⟩) ⟨nl rfl, nl rfl⟩ (fun G => ?_)
  obtain ⟨h191_90, hg191_90, hr⟩ := bnd hr
  refine c_putF 12 46 (t := 50) (ty := (.array .int)) (ref := "FollowingRefsModel") hg191_90 rfl tyX12 tyX12_ok nmX12 rfl (by decide) rfl (by decide) inlX12 (wsl_8 _ (List.mem_of_getElem? (i := 4) rfl)) rfl rfl rfl rfl (by decide +kernel) (by decide) rfl (Or.inr (Or.inr (Or.inr ⟨by decide, Or.inr ⟨_, rfl⟩⟩))) dX12_init_191 ?_
  refine c_aload_n dX12_init_194 rfl 0 rfl (nl rfl) ?_
  refine c_iconst dX12_init_195 (by decide) ?_
  obtain ⟨h196_93, hg196_93, hr⟩ := bnd hr
  refine c_newa dX12_init_196 hg196_93 (wsl_3 _ (List.mem_of_getElem? (i := 2) rfl)) (Or.inl ⟨rfl, rfl⟩) ⟨nl rfl, nl rfl⟩ (fun G => ?_)
  obtain ⟨h198_94, hg198_94, hr⟩ := bnd hr
  refine c_putF 12 47 (t := 50) (ty := (.array .int)) (ref := "FollowingRefsModel") hg198_94 rfl tyX12 tyX12_ok nmX12 rfl (by decide) rfl (by decide) inlX12 (wsl_8 _ (List.mem_of_getElem? (i := 5) rfl)) rfl rfl rfl rfl (by decide +kernel) (by decide) rfl (Or.inr (Or.inr (Or.inr ⟨by decide, Or.inr ⟨_, rfl⟩⟩))) dX12_init_198 ?_
  refine c_aload_n dX12_init_201 rfl 0 rfl (nl rfl) ?_
  refine c_iconst dX12_init_202 (by decide) ?_
  obtain ⟨h203_97, hg203_97, hr⟩ := bnd hr
  refine c_put' 12 48 (t := 0) (ty := .int) (ref := "FollowingRefsModel") hg203_97 rfl tyX12 tyX12_ok nmX12 rfl (by decide) rfl (by decide) inlX12 (wsl_8 _ (List.mem_of_getElem? (i := 6) rfl)) rfl rfl (by decide +kernel) (by decide) rfl (Or.inl ⟨rfl, rfl⟩) dX12_init_203 ?_
  refine c_aload_n dX12_init_206 rfl 0 rfl (nl rfl) ?_
  refine c_bipush dX12_init_207 (by decide) (by decide) ?_
  obtain ⟨h209_100, hg209_100, hr⟩ := bnd hr
  refine c_newa dX12_init_209 hg209_100 (wsl_3 _ (List.mem_of_getElem? (i := 4) rfl)) (Or.inr (Or.inr (Or.inl ⟨rfl, rfl⟩))) ⟨nl rfl, nl rfl⟩ (fun G => ?_)
  obtain ⟨h211_101, hg211_101, hr⟩ := bnd hr
  refine c_putF 12 49 (t := 52) (ty := (.array .byte)) (ref := "FollowingRefsModel") hg211_101 rfl tyX12 tyX12_ok nmX12 rfl (by decide) rfl (by decide) inlX12 (wsl_8 _ (List.mem_of_getElem? (i := 7) rfl)) rfl rfl rfl rfl (by decide +kernel) (by decide) rfl (Or.inr (Or.inr (Or.inr ⟨by decide, Or.inr ⟨_, rfl⟩⟩))) dX12_init_211 ?_
  refine c_aload_n dX12_init_214 rfl 0 rfl (nl rfl) ?_
  refine c_iconst dX12_init_215 (by decide) ?_
  obtain ⟨h216_104, hg216_104, hr⟩ := bnd hr
  refine c_newa dX12_init_216 hg216_104 (wsl_3 _ (List.mem_of_getElem? (i := 2) rfl)) (Or.inl ⟨rfl, rfl⟩) ⟨nl rfl, nl rfl⟩ (fun G => ?_)
  obtain ⟨h218_105, hg218_105, hr⟩ := bnd hr
  refine c_putF 12 53 (t := 50) (ty := (.array .int)) (ref := "FollowingRefsModel") hg218_105 rfl tyX12 tyX12_ok nmX12 rfl (by decide) rfl (by decide) inlX12 (wsl_8 _ (List.mem_of_getElem? (i := 8) rfl)) rfl rfl rfl rfl (by decide +kernel) (by decide) rfl (Or.inr (Or.inr (Or.inr ⟨by decide, Or.inr ⟨_, rfl⟩⟩))) dX12_init_218 ?_
  refine c_aload_n dX12_init_221 rfl 0 rfl (nl rfl) ?_
  refine c_sipush dX12_init_222 (by decide) (by decide) ?_
  obtain ⟨h225_108, hg225_108, hr⟩ := bnd hr
  refine c_newa dX12_init_225 hg225_108 (wsl_3 _ (List.mem_of_getElem? (i := 2) rfl)) (Or.inl ⟨rfl, rfl⟩) ⟨nl rfl, nl rfl⟩ (fun G => ?_)
  obtain ⟨h227_109, hg227_109, hr⟩ := bnd hr
  refine c_putF 12 54 (t := 50) (ty := (.array .int)) (ref := "FollowingRefsModel") hg227_109 rfl tyX12 tyX12_ok nmX12 rfl (by decide) rfl (by decide) inlX12 (wsl_8 _ (List.mem_of_getElem? (i := 9) rfl)) rfl rfl rfl rfl (by decide +kernel) (by decide) rfl (Or.inr (Or.inr (Or.inr ⟨by decide, Or.inr ⟨_, rfl⟩⟩))) dX12_init_227 ?_
  refine c_aload_n dX12_init_230 rfl 0 rfl (nl rfl) ?_
  refine c_bipush dX12_init_231 (by decide) (by decide) ?_
  obtain ⟨h233_112, hg233_112, hr⟩ := bnd hr
  refine c_newa dX12_init_233 hg233_112 (wsl_3 _ (List.mem_of_getElem? (i := 2) rfl)) (Or.inl ⟨rfl, rfl⟩) ⟨nl rfl, nl rfl⟩ (fun G => ?_)
  obtain ⟨h235_113, hg235_113, hr⟩ := bnd hr
  refine c_putF 12 56 (t := 50) (ty := (.array .int)) (ref := "FollowingRefsModel") hg235_113 rfl tyX12 tyX12_ok nmX12 rfl (by decide) rfl (by decide) inlX12 (wsl_8 _ (List.mem_of_getElem? (i := 10) rfl)) rfl rfl rfl rfl (by decide +kernel) (by decide) rfl (Or.inr (Or.inr (Or.inr ⟨by decide, Or.inr ⟨_, rfl⟩⟩))) dX12_init_235 ?_
  refine c_aload_n dX12_init_238 rfl 0 rfl (nl rfl) ?_
  refine c_bipush dX12_init_239 (by decide) (by decide) ?_
  obtain ⟨h241_116, hg241_116, hr⟩ := bnd hr
  refine c_newa dX12_init_241 hg241_116 (wsl_8 _ (List.mem_of_getElem? (i := 11) rfl)) (Or.inr (Or.inr (Or.inr ⟨rfl, rfl⟩))) ⟨nl rfl, nl rfl⟩ (fun G => ?_)
  obtain ⟨h243_117, hg243_117, hr⟩ := bnd hr
  refine c_putF 12 62 (t := 53) (ty := (.array .boolean)) (ref := "FollowingRefsModel") hg243_117 rfl tyX12 tyX12_ok nmX12 rfl (by decide) rfl (by decide) inlX12 (wsl_8 _ (List.mem_of_getElem? (i := 12) rfl)) rfl rfl rfl rfl (by decide +kernel) (by decide) rfl (Or.inr (Or.inr (Or.inr ⟨by decide, Or.inr ⟨_, rfl⟩⟩))) dX12_init_243 ?_
  refine c_aload_n dX12_init_246 rfl 0 rfl (nl rfl) ?_
  refine c_sipush dX12_init_247 (by decide) (by decide) ?_
  obtain ⟨h250_120, hg250_120, hr⟩ := bnd hr
  refine c_newa dX12_init_250 hg250_120 (wsl_3 _ (List.mem_of_getElem? (i := 2) rfl)) (Or.inl ⟨rfl, rfl⟩) ⟨nl rfl, nl rfl⟩ (fun G => ?_)
  obtain ⟨h252_121, hg252_121, hr⟩ := bnd hr
  refine c_putF 12 63 (t := 50) (ty := (.array .int)) (ref := "FollowingRefsModel") hg252_121 rfl tyX12 tyX12_ok nmX12 rfl (by decide) rfl (by decide) inlX12 (wsl_8 _ (List.mem_of_getElem? (i := 13) rfl)) rfl rfl rfl rfl (by decide +kernel) (by decide) rfl (Or.inr (Or.inr (Or.inr ⟨by decide, Or.inr ⟨_, rfl⟩⟩))) dX12_init_252 ?_
  refine c_aload_n dX12_init_255 rfl 0 rfl (nl rfl) ?_
  refine c_bipush dX12_init_256 (by decide) (by decide) ?_
  obtain ⟨h258_124, hg258_124, hr⟩ := bnd hr
  refine c_newa dX12_init_258 hg258_124 (wsl_1 _ (List.mem_of_getElem? (i := 6) rfl)) (Or.inr (Or.inl ⟨rfl, rfl⟩)) ⟨nl rfl, nl rfl⟩ (fun G => ?_)
  obtain ⟨h260_125, hg260_125, hr⟩ := bnd hr
  refine c_putF 12 64 (t := 51) (ty := (.array .long)) (ref := "FollowingRefsModel") hg260_125 rfl tyX12 tyX12_ok nmX12 rfl (by decide) rfl (by decide) inlX12 (wsl_8 _ (List.mem_of_getElem? (i := 14) rfl)) rfl rfl rfl rfl (by decide +kernel) (by decide) rfl (Or.inr (Or.inr (Or.inr ⟨by decide, Or.inr ⟨_, rfl⟩⟩))) dX12_init_260 ?_
  refine c_aload_n dX12_init_263 rfl 0 rfl (nl rfl) ?_
  refine c_iconst dX12_init_264 (by decide) ?_
  obtain ⟨h265_128, hg265_128, hr⟩ := bnd hr
  refine c_newa dX12_init_265 hg265_128 (wsl_8 _ (List.mem_of_getElem? (i := 11) rfl)) (Or.inr (Or.inr (Or.inr ⟨rfl, rfl⟩))) ⟨nl rfl, nl rfl⟩ (fun G => ?_)
  obtain ⟨h267_129, hg267_129, hr⟩ := bnd hr
  refine c_putF 12 65 (t := 53) (ty := (.array .boolean)) (ref := "FollowingRefsModel") hg267_129 rfl tyX12 tyX12_ok nmX12 rfl (by decide) rfl (by decide) inlX12 (wsl_8 _ (List.mem_of_getElem? (i := 15) rfl)) rfl rfl rfl rfl (by decide +kernel) (by decide) rfl (Or.inr (Or.inr (Or.inr ⟨by decide, Or.inr ⟨_, rfl⟩⟩))) dX12_init_267 ?_
  refine c_aload_n dX12_init_270 rfl 0 rfl (nl rfl) ?_
  refine c_get 12 11 (o := a0) (w := (151, h267_129 a0 11)) (T := TX12) (ref := "FollowingRefsModel") rfl (by decide) rfl (by decide) inlX12 (wsl_7 _ (List.mem_of_getElem? (i := 13) rfl)) rfl dX12_init_271 rfl ?_
  obtain ⟨_z271_131, hz271_131, hr⟩ := bnd hr
  refine c_scast 0 (v := (151, h267_129 a0 11)) (w := (51, h267_129 a0 11)) rfl (cnn (t := 48)) (hTn (t := 48) (by decide) (nng_ok hz271_131)) (st' := [(51, h267_129 a0 11)]) rfl ?_
  refine c_iconst dX12_init_274 (by decide) ?_
  refine c_ldc2' (v := 499850046565) dX12_init_275 (by decide) (wsl_8 _ (List.mem_of_getElem? (i := 16) rfl)) ?_
  obtain ⟨h278_134, hg278_134, hr⟩ := bnd hr
  refine c_last dX12_init_278 hg278_134 ?_
  refine c_aload_n dX12_init_279 rfl 0 rfl (nl rfl) ?_
  refine c_get 12 11 (o := a0) (w := (151, h278_134 a0 11)) (T := TX12) (ref := "FollowingRefsModel") rfl (by decide) rfl (by decide) inlX12 (wsl_7 _ (List.mem_of_getElem? (i := 13) rfl)) rfl dX12_init_280 rfl ?_
  obtain ⟨_z280_136, hz280_136, hr⟩ := bnd hr
  refine c_scast 0 (v := (151, h278_134 a0 11)) (w := (51, h278_134 a0 11)) rfl (cnn (t := 48)) (hTn (t := 48) (by decide) (nng_ok hz280_136)) (st' := [(51, h278_134 a0 11)]) rfl ?_
  refine c_iconst dX12_init_283 (by decide) ?_
  refine c_ldc2' (v := 7038329) dX12_init_284 (by decide) (wsl_8 _ (List.mem_of_getElem? (i := 17) rfl)) ?_
  obtain ⟨h287_139, hg287_139, hr⟩ := bnd hr
  refine c_last dX12_init_287 hg287_139 ?_
  refine c_aload_n dX12_init_288 rfl 0 rfl (nl rfl) ?_
  refine c_get 12 11 (o := a0) (w := (151, h287_139 a0 11)) (T := TX12) (ref := "FollowingRefsModel") rfl (by decide) rfl (by decide) inlX12 (wsl_7 _ (List.mem_of_getElem? (i := 13) rfl)) rfl dX12_init_289 rfl ?_
  obtain ⟨_z289_141, hz289_141, hr⟩ := bnd hr
  refine c_scast 0 (v := (151, h287_139 a0 11)) (w := (51, h287_139 a0 11)) rfl (cnn (t := 48)) (hTn (t := 48) (by decide) (nng_ok hz289_141)) (st' := [(51, h287_139 a0 11)]) rfl ?_
  refine c_iconst dX12_init_292 (by decide) ?_
  refine c_ldc2' (v := 7497062) dX12_init_293 (by decide) (wsl_8 _ (List.mem_of_getElem? (i := 18) rfl)) ?_
  obtain ⟨h296_144, hg296_144, hr⟩ := bnd hr
  refine c_last dX12_init_296 hg296_144 ?_
  refine c_aload_n dX12_init_297 rfl 0 rfl (nl rfl) ?_
  refine c_get 12 11 (o := a0) (w := (151, h296_144 a0 11)) (T := TX12) (ref := "FollowingRefsModel") rfl (by decide) rfl (by decide) inlX12 (wsl_7 _ (List.mem_of_getElem? (i := 13) rfl)) rfl dX12_init_298 rfl ?_
  obtain ⟨_z298_146, hz298_146, hr⟩ := bnd hr
  refine c_scast 0 (v := (151, h296_144 a0 11)) (w := (51, h296_144 a0 11)) rfl (cnn (t := 48)) (hTn (t := 48) (by decide) (nng_ok hz298_146)) (st' := [(51, h296_144 a0 11)]) rfl ?_
  refine c_iconst dX12_init_301 (by decide) ?_
  refine c_ldc2' (v := 29807) dX12_init_302 (by decide) (wsl_8 _ (List.mem_of_getElem? (i := 19) rfl)) ?_
  obtain ⟨h305_149, hg305_149, hr⟩ := bnd hr
  refine c_last dX12_init_305 hg305_149 ?_
  refine c_aload_n dX12_init_306 rfl 0 rfl (nl rfl) ?_
  refine c_get 12 11 (o := a0) (w := (151, h305_149 a0 11)) (T := TX12) (ref := "FollowingRefsModel") rfl (by decide) rfl (by decide) inlX12 (wsl_7 _ (List.mem_of_getElem? (i := 13) rfl)) rfl dX12_init_307 rfl ?_
  obtain ⟨_z307_151, hz307_151, hr⟩ := bnd hr
  refine c_scast 0 (v := (151, h305_149 a0 11)) (w := (51, h305_149 a0 11)) rfl (cnn (t := 48)) (hTn (t := 48) (by decide) (nng_ok hz307_151)) (st' := [(51, h305_149 a0 11)]) rfl ?_
  refine c_iconst dX12_init_310 (by decide) ?_
  refine c_ldc2' (v := 125779836236645) dX12_init_311 (by decide) (wsl_8 _ (List.mem_of_getElem? (i := 20) rfl)) ?_
  obtain ⟨h314_154, hg314_154, hr⟩ := bnd hr
  refine c_last dX12_init_314 hg314_154 ?_
  refine c_aload_n dX12_init_315 rfl 0 rfl (nl rfl) ?_
  refine c_get 12 11 (o := a0) (w := (151, h314_154 a0 11)) (T := TX12) (ref := "FollowingRefsModel") rfl (by decide) rfl (by decide) inlX12 (wsl_7 _ (List.mem_of_getElem? (i := 13) rfl)) rfl dX12_init_316 rfl ?_
  obtain ⟨_z316_156, hz316_156, hr⟩ := bnd hr
  refine c_scast 0 (v := (151, h314_154 a0 11)) (w := (51, h314_154 a0 11)) rfl (cnn (t := 48)) (hTn (t := 48) (by decide) (nng_ok hz316_156)) (st' := [(51, h314_154 a0 11)]) rfl ?_
  refine c_iconst dX12_init_319 (by decide) ?_
  refine c_ldc2' (v := 112628746448759) dX12_init_320 (by decide) (wsl_8 _ (List.mem_of_getElem? (i := 21) rfl)) ?_
  obtain ⟨h323_159, hg323_159, hr⟩ := bnd hr
  refine c_last dX12_init_323 hg323_159 ?_
  refine c_aload_n dX12_init_324 rfl 0 rfl (nl rfl) ?_
  refine c_get 12 11 (o := a0) (w := (151, h323_159 a0 11)) (T := TX12) (ref := "FollowingRefsModel") rfl (by decide) rfl (by decide) inlX12 (wsl_7 _ (List.mem_of_getElem? (i := 13) rfl)) rfl dX12_init_325 rfl ?_
  obtain ⟨_z325_161, hz325_161, hr⟩ := bnd hr
  refine c_scast 0 (v := (151, h323_159 a0 11)) (w := (51, h323_159 a0 11)) rfl (cnn (t := 48)) (hTn (t := 48) (by decide) (nng_ok hz325_161)) (st' := [(51, h323_159 a0 11)]) rfl ?_
  refine c_bipush dX12_init_328 (by decide) (by decide) ?_
  refine c_ldc2' (v := 427020345714) dX12_init_330 (by decide) (wsl_8 _ (List.mem_of_getElem? (i := 22) rfl)) ?_
  obtain ⟨h333_164, hg333_164, hr⟩ := bnd hr
  refine c_last dX12_init_333 hg333_164 ?_
  refine c_aload_n dX12_init_334 rfl 0 rfl (nl rfl) ?_
  refine c_get 12 11 (o := a0) (w := (151, h333_164 a0 11)) (T := TX12) (ref := "FollowingRefsModel") rfl (by decide) rfl (by decide) inlX12 (wsl_7 _ (List.mem_of_getElem? (i := 13) rfl)) rfl dX12_init_335 rfl ?_
  obtain ⟨_z335_166, hz335_166, hr⟩ := bnd hr
  refine c_scast 0 (v := (151, h333_164 a0 11)) (w := (51, h333_164 a0 11)) rfl (cnn (t := 48)) (hTn (t := 48) (by decide) (nng_ok hz335_166)) (st' := [(51, h333_164 a0 11)]) rfl ?_
  refine c_bipush dX12_init_338 (by decide) (by decide) ?_
  refine c_ldc2' (v := 491328333172) dX12_init_340 (by decide) (wsl_8 _ (List.mem_of_getElem? (i := 23) rfl)) ?_
  obtain ⟨h343_169, hg343_169, hr⟩ := bnd hr
  refine c_last dX12_init_343 hg343_169 ?_
  refine c_aload_n dX12_init_344 rfl 0 rfl (nl rfl) ?_
  refine c_get 12 11 (o := a0) (w := (151, h343_169 a0 11)) (T := TX12) (ref := "FollowingRefsModel") rfl (by decide) rfl (by decide) inlX12 (wsl_7 _ (List.mem_of_getElem? (i := 13) rfl)) rfl dX12_init_345 rfl ?_
  obtain ⟨_z345_171, hz345_171, hr⟩ := bnd hr
  refine c_scast 0 (v := (151, h343_169 a0 11)) (w := (51, h343_169 a0 11)) rfl (cnn (t := 48)) (hTn (t := 48) (by decide) (nng_ok hz345_171)) (st' := [(51, h343_169 a0 11)]) rfl ?_
  refine c_bipush dX12_init_348 (by decide) (by decide) ?_
  refine c_ldc2' (v := 1718971500) dX12_init_350 (by decide) (wsl_9 _ (List.mem_of_getElem? (i := 0) rfl)) ?_
  obtain ⟨h353_174, hg353_174, hr⟩ := bnd hr
  refine c_last dX12_init_353 hg353_174 ?_
  refine c_aload_n dX12_init_354 rfl 0 rfl (nl rfl) ?_
  refine c_get 12 11 (o := a0) (w := (151, h353_174 a0 11)) (T := TX12) (ref := "FollowingRefsModel") rfl (by decide) rfl (by decide) inlX12 (wsl_7 _ (List.mem_of_getElem? (i := 13) rfl)) rfl dX12_init_355 rfl ?_
  obtain ⟨_z355_176, hz355_176, hr⟩ := bnd hr
  refine c_scast 0 (v := (151, h353_174 a0 11)) (w := (51, h353_174 a0 11)) rfl (cnn (t := 48)) (hTn (t := 48) (by decide) (nng_ok hz355_176)) (st' := [(51, h353_174 a0 11)]) rfl ?_
  refine c_bipush dX12_init_358 (by decide) (by decide) ?_
  refine c_ldc2' (v := 1818326117) dX12_init_360 (by decide) (wsl_9 _ (List.mem_of_getElem? (i := 1) rfl)) ?_
  obtain ⟨h363_179, hg363_179, hr⟩ := bnd hr
  refine c_last dX12_init_363 hg363_179 ?_
  refine c_aload_n dX12_init_364 rfl 0 rfl (nl rfl) ?_
  refine c_get 12 11 (o := a0) (w := (151, h363_179 a0 11)) (T := TX12) (ref := "FollowingRefsModel") rfl (by decide) rfl (by decide) inlX12 (wsl_7 _ (List.mem_of_getElem? (i := 13) rfl)) rfl dX12_init_365 rfl ?_
  obtain ⟨_z365_181, hz365_181, hr⟩ := bnd hr
  refine c_scast 0 (v := (151, h363_179 a0 11)) (w := (51, h363_179 a0 11)) rfl (cnn (t := 48)) (hTn (t := 48) (by decide) (nng_ok hz365_181)) (st' := [(51, h363_179 a0 11)]) rfl ?_
  refine c_bipush dX12_init_368 (by decide) (by decide) ?_
  refine c_ldc2' (v := 28258988067220596) dX12_init_370 (by decide) (wsl_9 _ (List.mem_of_getElem? (i := 2) rfl)) ?_
  obtain ⟨h373_184, hg373_184, hr⟩ := bnd hr
  refine c_last dX12_init_373 hg373_184 ?_
  refine c_aload_n dX12_init_374 rfl 0 rfl (nl rfl) ?_
  refine c_get 12 11 (o := a0) (w := (151, h373_184 a0 11)) (T := TX12) (ref := "FollowingRefsModel") rfl (by decide) rfl (by decide) inlX12 (wsl_7 _ (List.mem_of_getElem? (i := 13) rfl)) rfl dX12_init_375 rfl ?_
  obtain ⟨_z375_186, hz375_186, hr⟩ := bnd hr
  refine c_scast 0 (v := (151, h373_184 a0 11)) (w := (51, h373_184 a0 11)) rfl (cnn (t := 48)) (hTn (t := 48) (by decide) (nng_ok hz375_186)) (st' := [(51, h373_184 a0 11)]) rfl ?_
  refine c_bipush dX12_init_378 (by decide) (by decide) ?_
  refine c_ldc2' (v := 1852138852) dX12_init_380 (by decide) (wsl_9 _ (List.mem_of_getElem? (i := 3) rfl)) ?_
  obtain ⟨h383_189, hg383_189, hr⟩ := bnd hr
  refine c_last dX12_init_383 hg383_189 ?_
  refine c_aload_n dX12_init_384 rfl 0 rfl (nl rfl) ?_
  refine c_get 12 11 (o := a0) (w := (151, h383_189 a0 11)) (T := TX12) (ref := "FollowingRefsModel") rfl (by decide) rfl (by decide) inlX12 (wsl_7 _ (List.mem_of_getElem? (i := 13) rfl)) rfl dX12_init_385 rfl ?_
  obtain ⟨_z385_191, hz385_191, hr⟩ := bnd hr
  refine c_scast 0 (v := (151, h383_189 a0 11)) (w := (51, h383_189 a0 11)) rfl (cnn (t := 48)) (hTn (t := 48) (by decide) (nng_ok hz385_191)) (st' := [(51, h383_189 a0 11)]) rfl ?_
  refine c_bipush dX12_init_388 (by decide) (by decide) ?_
  refine c_ldc2' (v := 426953237355) dX12_init_390 (by decide) (wsl_9 _ (List.mem_of_getElem? (i := 4) rfl)) ?_
  obtain ⟨h393_194, hg393_194, hr⟩ := bnd hr
  refine c_last dX12_init_393 hg393_194 ?_
  refine c_aload_n dX12_init_394 rfl 0 rfl (nl rfl) ?_
  refine c_get 12 11 (o := a0) (w := (151, h393_194 a0 11)) (T := TX12) (ref := "FollowingRefsModel") rfl (by decide) rfl (by decide) inlX12 (wsl_7 _ (List.mem_of_getElem? (i := 13) rfl)) rfl dX12_init_395 rfl ?_
  obtain ⟨_z395_196, hz395_196, hr⟩ := bnd hr
  refine c_scast 0 (v := (151, h393_194 a0 11)) (w := (51, h393_194 a0 11)) rfl (cnn (t := 48)) (hTn (t := 48) (by decide) (nng_ok hz395_196)) (st' := [(51, h393_194 a0 11)]) rfl ?_
  refine c_bipush dX12_init_398 (by decide) (by decide) ?_
  refine c_ldc2' (v := 115923103347316) dX12_init_400 (by decide) (wsl_9 _ (List.mem_of_getElem? (i := 5) rfl)) ?_
  obtain ⟨h403_199, hg403_199, hr⟩ := bnd hr
  refine c_last dX12_init_403 hg403_199 ?_
  refine c_aload_n dX12_init_404 rfl 0 rfl (nl rfl) ?_
  refine c_get 12 11 (o := a0) (w := (151, h403_199 a0 11)) (T := TX12) (ref := "FollowingRefsModel") rfl (by decide) rfl (by decide) inlX12 (wsl_7 _ (List.mem_of_getElem? (i := 13) rfl)) rfl dX12_init_405 rfl ?_
  obtain ⟨_z405_201, hz405_201, hr⟩ := bnd hr
  refine c_scast 0 (v := (151, h403_199 a0 11)) (w := (51, h403_199 a0 11)) rfl (cnn (t := 48)) (hTn (t := 48) (by decide) (nng_ok hz405_201)) (st' := [(51, h403_199 a0 11)]) rfl ?_
  refine c_bipush dX12_init_408 (by decide) (by decide) ?_
  refine c_ldc2' (v := 110386773062757) dX12_init_410 (by decide) (wsl_9 _ (List.mem_of_getElem? (i := 6) rfl)) ?_
  obtain ⟨h413_204, hg413_204, hr⟩ := bnd hr
  refine c_last dX12_init_413 hg413_204 ?_
  refine c_aload_n dX12_init_414 rfl 0 rfl (nl rfl) ?_
  refine c_get 12 11 (o := a0) (w := (151, h413_204 a0 11)) (T := TX12) (ref := "FollowingRefsModel") rfl (by decide) rfl (by decide) inlX12 (wsl_7 _ (List.mem_of_getElem? (i := 13) rfl)) rfl dX12_init_415 rfl ?_
  obtain ⟨_z415_206, hz415_206, hr⟩ := bnd hr
  refine c_scast 0 (v := (151, h413_204 a0 11)) (w := (51, h413_204 a0 11)) rfl (cnn (t := 48)) (hTn (t := 48) (by decide) (nng_ok hz415_206)) (st' := [(51, h413_204 a0 11)]) rfl ?_
  refine c_bipush dX12_init_418 (by decide) (by decide) ?_
  refine c_ldc2' (v := 26982) dX12_init_420 (by decide) (wsl_9 _ (List.mem_of_getElem? (i := 7) rfl)) ?_
  obtain ⟨h423_209, hg423_209, hr⟩ := bnd hr
  refine c_last dX12_init_423 hg423_209 ?_
  refine c_aload_n dX12_init_424 rfl 0 rfl (nl rfl) ?_
  refine c_get 12 11 (o := a0) (w := (151, h423_209 a0 11)) (T := TX12) (ref := "FollowingRefsModel") rfl (by decide) rfl (by decide) inlX12 (wsl_7 _ (List.mem_of_getElem? (i := 13) rfl)) rfl dX12_init_425 rfl ?_
  obtain ⟨_z425_211, hz425_211, hr⟩ := bnd hr
  refine c_scast 0 (v := (151, h423_209 a0 11)) (w := (51, h423_209 a0 11)) rfl (cnn (t := 48)) (hTn (t := 48) (by decide) (nng_ok hz425_211)) (st' := [(51, h423_209 a0 11)]) rfl ?_
  refine c_bipush dX12_init_428 (by decide) (by decide) ?_
  refine c_ldc2' (v := 6385252) dX12_init_430 (by decide) (wsl_9 _ (List.mem_of_getElem? (i := 8) rfl)) ?_
  obtain ⟨h433_214, hg433_214, hr⟩ := bnd hr
  refine c_last dX12_init_433 hg433_214 ?_
  refine c_aload_n dX12_init_434 rfl 0 rfl (nl rfl) ?_
  refine c_get 12 11 (o := a0) (w := (151, h433_214 a0 11)) (T := TX12) (ref := "FollowingRefsModel") rfl (by decide) rfl (by decide) inlX12 (wsl_7 _ (List.mem_of_getElem? (i := 13) rfl)) rfl dX12_init_435 rfl ?_
  obtain ⟨_z435_216, hz435_216, hr⟩ := bnd hr
  refine c_scast 0 (v := (151, h433_214 a0 11)) (w := (51, h433_214 a0 11)) rfl (cnn (t := 48)) (hTn (t := 48) (by decide) (nng_ok hz435_216)) (st' := [(51, h433_214 a0 11)]) rfl ?_
  refine c_bipush dX12_init_438 (by decide) (by decide) ?_
  refine c_ldc2' (v := 7562612) dX12_init_440 (by decide) (wsl_9 _ (List.mem_of_getElem? (i := 9) rfl)) ?_
  obtain ⟨h443_219, hg443_219, hr⟩ := bnd hr
  refine c_last dX12_init_443 hg443_219 ?_
  refine c_aload_n dX12_init_444 rfl 0 rfl (nl rfl) ?_
  refine c_get 12 11 (o := a0) (w := (151, h443_219 a0 11)) (T := TX12) (ref := "FollowingRefsModel") rfl (by decide) rfl (by decide) inlX12 (wsl_7 _ (List.mem_of_getElem? (i := 13) rfl)) rfl dX12_init_445 rfl ?_
  obtain ⟨_z445_221, hz445_221, hr⟩ := bnd hr
  refine c_scast 0 (v := (151, h443_219 a0 11)) (w := (51, h443_219 a0 11)) rfl (cnn (t := 48)) (hTn (t := 48) (by decide) (nng_ok hz445_221)) (st' := [(51, h443_219 a0 11)]) rfl ?_
  refine c_bipush dX12_init_448 (by decide) (by decide) ?_
  refine c_ldc2' (v := 422608071022) dX12_init_450 (by decide) (wsl_9 _ (List.mem_of_getElem? (i := 10) rfl)) ?_
  obtain ⟨h453_224, hg453_224, hr⟩ := bnd hr
  refine c_last dX12_init_453 hg453_224 ?_
  refine c_aload_n dX12_init_454 rfl 0 rfl (nl rfl) ?_
  refine c_get 12 11 (o := a0) (w := (151, h453_224 a0 11)) (T := TX12) (ref := "FollowingRefsModel") rfl (by decide) rfl (by decide) inlX12 (wsl_7 _ (List.mem_of_getElem? (i := 13) rfl)) rfl dX12_init_455 rfl ?_
  obtain ⟨_z455_226, hz455_226, hr⟩ := bnd hr
  refine c_scast 0 (v := (151, h453_224 a0 11)) (w := (51, h453_224 a0 11)) rfl (cnn (t := 48)) (hTn (t := 48) (by decide) (nng_ok hz455_226)) (st' := [(51, h453_224 a0 11)]) rfl ?_
  refine c_bipush dX12_init_458 (by decide) (by decide) ?_
  refine c_ldc2' (v := 109330228406644) dX12_init_460 (by decide) (wsl_9 _ (List.mem_of_getElem? (i := 11) rfl)) ?_
  obtain ⟨h463_229, hg463_229, hr⟩ := bnd hr
  refine c_last dX12_init_463 hg463_229 ?_
  refine c_aload_n dX12_init_464 rfl 0 rfl (nl rfl) ?_
  refine c_get 12 11 (o := a0) (w := (151, h463_229 a0 11)) (T := TX12) (ref := "FollowingRefsModel") rfl (by decide) rfl (by decide) inlX12 (wsl_7 _ (List.mem_of_getElem? (i := 13) rfl)) rfl dX12_init_465 rfl ?_
  obtain ⟨_z465_231, hz465_231, hr⟩ := bnd hr
  refine c_scast 0 (v := (151, h463_229 a0 11)) (w := (51, h463_229 a0 11)) rfl (cnn (t := 48)) (hTn (t := 48) (by decide) (nng_ok hz465_231)) (st' := [(51, h463_229 a0 11)]) rfl ?_
  refine c_bipush dX12_init_468 (by decide) (by decide) ?_
  refine c_ldc2' (v := 1650549611) dX12_init_470 (by decide) (wsl_9 _ (List.mem_of_getElem? (i := 12) rfl)) ?_
  obtain ⟨h473_234, hg473_234, hr⟩ := bnd hr
  refine c_last dX12_init_473 hg473_234 ?_
  refine c_aload_n dX12_init_474 rfl 0 rfl (nl rfl) ?_
  refine c_get 12 11 (o := a0) (w := (151, h473_234 a0 11)) (T := TX12) (ref := "FollowingRefsModel") rfl (by decide) rfl (by decide) inlX12 (wsl_7 _ (List.mem_of_getElem? (i := 13) rfl)) rfl dX12_init_475 rfl ?_
  obtain ⟨_z475_236, hz475_236, hr⟩ := bnd hr
  refine c_scast 0 (v := (151, h473_234 a0 11)) (w := (51, h473_234 a0 11)) rfl (cnn (t := 48)) (hTn (t := 48) (by decide) (nng_ok hz475_236)) (st' := [(51, h473_234 a0 11)]) rfl ?_
  refine c_bipush dX12_init_478 (by decide) (by decide) ?_
  refine c_ldc2' (v := 1852796517) dX12_init_480 (by decide) (wsl_9 _ (List.mem_of_getElem? (i := 13) rfl)) ?_
  obtain ⟨h483_239, hg483_239, hr⟩ := bnd hr
  refine c_last dX12_init_483 hg483_239 ?_
  refine c_aload_n dX12_init_484 rfl 0 rfl (nl rfl) ?_
  refine c_get 12 11 (o := a0) (w := (151, h483_239 a0 11)) (T := TX12) (ref := "FollowingRefsModel") rfl (by decide) rfl (by decide) inlX12 (wsl_7 _ (List.mem_of_getElem? (i := 13) rfl)) rfl dX12_init_485 rfl ?_
  obtain ⟨_z485_241, hz485_241, hr⟩ := bnd hr
  refine c_scast 0 (v := (151, h483_239 a0 11)) (w := (51, h483_239 a0 11)) rfl (cnn (t := 48)) (hTn (t := 48) (by decide) (nng_ok hz485_241)) (st' := [(51, h483_239 a0 11)]) rfl ?_
  refine c_bipush dX12_init_488 (by decide) (by decide) ?_
  refine c_ldc2' (v := 28530) dX12_init_490 (by decide) (wsl_9 _ (List.mem_of_getElem? (i := 14) rfl)) ?_
  obtain ⟨h493_244, hg493_244, hr⟩ := bnd hr
  refine c_last dX12_init_493 hg493_244 ?_
  refine c_aload_n dX12_init_494 rfl 0 rfl (nl rfl) ?_
  refine c_get 12 11 (o := a0) (w := (151, h493_244 a0 11)) (T := TX12) (ref := "FollowingRefsModel") rfl (by decide) rfl (by decide) inlX12 (wsl_7 _ (List.mem_of_getElem? (i := 13) rfl)) rfl dX12_init_495 rfl ?_
  obtain ⟨_z495_246, hz495_246, hr⟩ := bnd hr
  refine c_scast 0 (v := (151, h493_244 a0 11)) (w := (51, h493_244 a0 11)) rfl (cnn (t := 48)) (hTn (t := 48) (by decide) (nng_ok hz495_246)) (st' := [(51, h493_244 a0 11)]) rfl ?_
  refine c_bipush dX12_init_498 (by decide) (by decide) ?_
  refine c_ldc2' (v := 7237492) dX12_init_500 (by decide) (wsl_9 _ (List.mem_of_getElem? (i := 15) rfl)) ?_
  obtain ⟨h503_249, hg503_249, hr⟩ := bnd hr
  refine c_last dX12_init_503 hg503_249 ?_
  refine c_aload_n dX12_init_504 rfl 0 rfl (nl rfl) ?_
  refine c_get 12 11 (o := a0) (w := (151, h503_249 a0 11)) (T := TX12) (ref := "FollowingRefsModel") rfl (by decide) rfl (by decide) inlX12 (wsl_7 _ (List.mem_of_getElem? (i := 13) rfl)) rfl dX12_init_505 rfl ?_
  obtain ⟨_z505_251, hz505_251, hr⟩ := bnd hr
  refine c_scast 0 (v := (151, h503_249 a0 11)) (w := (51, h503_249 a0 11)) rfl (cnn (t := 48)) (hTn (t := 48) (by decide) (nng_ok hz505_251)) (st' := [(51, h503_249 a0 11)]) rfl ?_
  refine c_bipush dX12_init_508 (by decide) (by decide) ?_
  refine c_ldc2' (v := 1650553445) dX12_init_510 (by decide) (wsl_9 _ (List.mem_of_getElem? (i := 16) rfl)) ?_
  obtain ⟨h513_254, hg513_254, hr⟩ := bnd hr
  refine c_last dX12_init_513 hg513_254 ?_
  refine c_aload_n dX12_init_514 rfl 0 rfl (nl rfl) ?_
  refine c_get 12 11 (o := a0) (w := (151, h513_254 a0 11)) (T := TX12) (ref := "FollowingRefsModel") rfl (by decide) rfl (by decide) inlX12 (wsl_7 _ (List.mem_of_getElem? (i := 13) rfl)) rfl dX12_init_515 rfl ?_
  obtain ⟨_z515_256, hz515_256, hr⟩ := bnd hr
  refine c_scast 0 (v := (151, h513_254 a0 11)) (w := (51, h513_254 a0 11)) rfl (cnn (t := 48)) (hTn (t := 48) (by decide) (nng_ok hz515_256)) (st' := [(51, h513_254 a0 11)]) rfl ?_
  refine c_bipush dX12_init_518 (by decide) (by decide) ?_
  refine c_ldc2' (v := 461414299502) dX12_init_520 (by decide) (wsl_9 _ (List.mem_of_getElem? (i := 17) rfl)) ?_
  obtain ⟨h523_259, hg523_259, hr⟩ := bnd hr
  refine c_last dX12_init_523 hg523_259 ?_
  refine c_aload_n dX12_init_524 rfl 0 rfl (nl rfl) ?_
  refine c_get 12 11 (o := a0) (w := (151, h523_259 a0 11)) (T := TX12) (ref := "FollowingRefsModel") rfl (by decide) rfl (by decide) inlX12 (wsl_7 _ (List.mem_of_getElem? (i := 13) rfl)) rfl dX12_init_525 rfl ?_
  obtain ⟨_z525_261, hz525_261, hr⟩ := bnd hr
  refine c_scast 0 (v := (151, h523_259 a0 11)) (w := (51, h523_259 a0 11)) rfl (cnn (t := 48)) (hTn (t := 48) (by decide) (nng_ok hz525_261)) (st' := [(51, h523_259 a0 11)]) rfl ?_
  refine c_bipush dX12_init_528 (by decide) (by decide) ?_
  refine c_ldc2' (v := 108243635103086) dX12_init_530 (by decide) (wsl_9 _ (List.mem_of_getElem? (i := 18) rfl)) ?_
  obtain ⟨h533_264, hg533_264, hr⟩ := bnd hr
  refine c_last dX12_init_533 hg533_264 ?_
  refine c_aload_n dX12_init_534 rfl 0 rfl (nl rfl) ?_
  refine c_get 12 11 (o := a0) (w := (151, h533_264 a0 11)) (T := TX12) (ref := "FollowingRefsModel") rfl (by decide) rfl (by decide) inlX12 (wsl_7 _ (List.mem_of_getElem? (i := 13) rfl)) rfl dX12_init_535 rfl ?_
  obtain ⟨_z535_266, hz535_266, hr⟩ := bnd hr
  refine c_scast 0 (v := (151, h533_264 a0 11)) (w := (51, h533_264 a0 11)) rfl (cnn (t := 48)) (hTn (t := 48) (by decide) (nng_ok hz535_266)) (st' := [(51, h533_264 a0 11)]) rfl ?_
  refine c_bipush dX12_init_538 (by decide) (by decide) ?_
  refine c_ldc2' (v := 26990) dX12_init_540 (by decide) (wsl_9 _ (List.mem_of_getElem? (i := 19) rfl)) ?_
  obtain ⟨h543_269, hg543_269, hr⟩ := bnd hr
  refine c_last dX12_init_543 hg543_269 ?_
  refine c_aload_n dX12_init_544 rfl 0 rfl (nl rfl) ?_
  refine c_get 12 11 (o := a0) (w := (151, h543_269 a0 11)) (T := TX12) (ref := "FollowingRefsModel") rfl (by decide) rfl (by decide) inlX12 (wsl_7 _ (List.mem_of_getElem? (i := 13) rfl)) rfl dX12_init_545 rfl ?_
  obtain ⟨_z545_271, hz545_271, hr⟩ := bnd hr
  refine c_scast 0 (v := (151, h543_269 a0 11)) (w := (51, h543_269 a0 11)) rfl (cnn (t := 48)) (hTn (t := 48) (by decide) (nng_ok hz545_271)) (st' := [(51, h543_269 a0 11)]) rfl ?_
  refine c_bipush dX12_init_548 (by decide) (by decide) ?_
  refine c_ldc2' (v := 7499639) dX12_init_550 (by decide) (wsl_9 _ (List.mem_of_getElem? (i := 20) rfl)) ?_
  obtain ⟨h553_274, hg553_274, hr⟩ := bnd hr
  refine c_last dX12_init_553 hg553_274 ?_
  obtain rfl := Option.some.inj hr
  exact c_vret dX12_init_554 rfl rfl ⟨rfl, rfl⟩
theorem oX12_init {l : Launch} {D : va_G} {n : Int} {h r : hH} {a0 : Int} (hr : fX12_init n h a0 = some r) : Ctc l D yX12_init M_X12_init [(22, a0)] h (none, r) := Ctc_of (by decide) rfl (fun _ => rfl) (nl rfl) (fun {p e R s m args below meth c G A H0} => oX12_init_w hr)
/-! X11_init -/
theorem dX11_init_0 : decode cX11_init 0 = .ok (.aload_n 0, 1) := by decide +kernel
theorem dX11_init_1 : decode cX11_init 1 = .ok (.invokespecial 3, 3) := by decide +kernel
theorem dX11_init_4 : decode cX11_init 4 = .ok (.aload_n 0, 1) := by decide +kernel
theorem dX11_init_5 : decode cX11_init 5 = .ok (.new 9, 3) := by decide +kernel
theorem dX11_init_8 : decode cX11_init 8 = .ok (.dup, 1) := by decide +kernel
theorem dX11_init_9 : decode cX11_init 9 = .ok (.invokespecial 11, 3) := by decide +kernel
theorem dX11_init_12 : decode cX11_init 12 = .ok (.putfield 12, 3) := by decide +kernel
theorem dX11_init_15 : decode cX11_init 15 = .ok (.aload_n 0, 1) := by decide +kernel
theorem dX11_init_16 : decode cX11_init 16 = .ok (.new 16, 3) := by decide +kernel
theorem dX11_init_19 : decode cX11_init 19 = .ok (.dup, 1) := by decide +kernel
theorem dX11_init_20 : decode cX11_init 20 = .ok (.invokespecial 18, 3) := by decide +kernel
theorem dX11_init_23 : decode cX11_init 23 = .ok (.putfield 19, 3) := by decide +kernel
theorem dX11_init_26 : decode cX11_init 26 = .ok (.aload_n 0, 1) := by decide +kernel
theorem dX11_init_27 : decode cX11_init 27 = .ok (.new 23, 3) := by decide +kernel
theorem dX11_init_30 : decode cX11_init 30 = .ok (.dup, 1) := by decide +kernel
theorem dX11_init_31 : decode cX11_init 31 = .ok (.invokespecial 25, 3) := by decide +kernel
theorem dX11_init_34 : decode cX11_init 34 = .ok (.putfield 26, 3) := by decide +kernel
theorem dX11_init_37 : decode cX11_init 37 = .ok (.aload_n 0, 1) := by decide +kernel
theorem dX11_init_38 : decode cX11_init 38 = .ok (.new 30, 3) := by decide +kernel
theorem dX11_init_41 : decode cX11_init 41 = .ok (.dup, 1) := by decide +kernel
theorem dX11_init_42 : decode cX11_init 42 = .ok (.invokespecial 32, 3) := by decide +kernel
theorem dX11_init_45 : decode cX11_init 45 = .ok (.putfield 33, 3) := by decide +kernel
theorem dX11_init_48 : decode cX11_init 48 = .ok (.aload_n 0, 1) := by decide +kernel
theorem dX11_init_49 : decode cX11_init 49 = .ok (.new 37, 3) := by decide +kernel
theorem dX11_init_52 : decode cX11_init 52 = .ok (.dup, 1) := by decide +kernel
theorem dX11_init_53 : decode cX11_init 53 = .ok (.aload_n 0, 1) := by decide +kernel
theorem dX11_init_54 : decode cX11_init 54 = .ok (.getfield 12, 3) := by decide +kernel
theorem dX11_init_57 : decode cX11_init 57 = .ok (.invokespecial 39, 3) := by decide +kernel
theorem dX11_init_60 : decode cX11_init 60 = .ok (.putfield 42, 3) := by decide +kernel
theorem dX11_init_63 : decode cX11_init 63 = .ok (.aload_n 0, 1) := by decide +kernel
theorem dX11_init_64 : decode cX11_init 64 = .ok (.new 46, 3) := by decide +kernel
theorem dX11_init_67 : decode cX11_init 67 = .ok (.dup, 1) := by decide +kernel
theorem dX11_init_68 : decode cX11_init 68 = .ok (.aload_n 0, 1) := by decide +kernel
theorem dX11_init_69 : decode cX11_init 69 = .ok (.getfield 12, 3) := by decide +kernel
theorem dX11_init_72 : decode cX11_init 72 = .ok (.aload_n 0, 1) := by decide +kernel
theorem dX11_init_73 : decode cX11_init 73 = .ok (.getfield 19, 3) := by decide +kernel
theorem dX11_init_76 : decode cX11_init 76 = .ok (.invokespecial 48, 3) := by decide +kernel
theorem dX11_init_79 : decode cX11_init 79 = .ok (.putfield 51, 3) := by decide +kernel
theorem dX11_init_82 : decode cX11_init 82 = .ok (.aload_n 0, 1) := by decide +kernel
theorem dX11_init_83 : decode cX11_init 83 = .ok (.new 55, 3) := by decide +kernel
theorem dX11_init_86 : decode cX11_init 86 = .ok (.dup, 1) := by decide +kernel
theorem dX11_init_87 : decode cX11_init 87 = .ok (.aload_n 0, 1) := by decide +kernel
theorem dX11_init_88 : decode cX11_init 88 = .ok (.getfield 12, 3) := by decide +kernel
theorem dX11_init_91 : decode cX11_init 91 = .ok (.aload_n 0, 1) := by decide +kernel
theorem dX11_init_92 : decode cX11_init 92 = .ok (.getfield 19, 3) := by decide +kernel
theorem dX11_init_95 : decode cX11_init 95 = .ok (.invokespecial 57, 3) := by decide +kernel
theorem dX11_init_98 : decode cX11_init 98 = .ok (.putfield 58, 3) := by decide +kernel
theorem dX11_init_101 : decode cX11_init 101 = .ok (.aload_n 0, 1) := by decide +kernel
theorem dX11_init_102 : decode cX11_init 102 = .ok (.new 62, 3) := by decide +kernel
theorem dX11_init_105 : decode cX11_init 105 = .ok (.dup, 1) := by decide +kernel
theorem dX11_init_106 : decode cX11_init 106 = .ok (.aload_n 0, 1) := by decide +kernel
theorem dX11_init_107 : decode cX11_init 107 = .ok (.getfield 19, 3) := by decide +kernel
theorem dX11_init_110 : decode cX11_init 110 = .ok (.aload_n 0, 1) := by decide +kernel
theorem dX11_init_111 : decode cX11_init 111 = .ok (.getfield 26, 3) := by decide +kernel
theorem dX11_init_114 : decode cX11_init 114 = .ok (.invokespecial 64, 3) := by decide +kernel
theorem dX11_init_117 : decode cX11_init 117 = .ok (.putfield 67, 3) := by decide +kernel
theorem dX11_init_120 : decode cX11_init 120 = .ok (.aload_n 0, 1) := by decide +kernel
theorem dX11_init_121 : decode cX11_init 121 = .ok (.new 62, 3) := by decide +kernel
theorem dX11_init_124 : decode cX11_init 124 = .ok (.dup, 1) := by decide +kernel
theorem dX11_init_125 : decode cX11_init 125 = .ok (.aload_n 0, 1) := by decide +kernel
theorem dX11_init_126 : decode cX11_init 126 = .ok (.getfield 19, 3) := by decide +kernel
theorem dX11_init_129 : decode cX11_init 129 = .ok (.aload_n 0, 1) := by decide +kernel
theorem dX11_init_130 : decode cX11_init 130 = .ok (.getfield 26, 3) := by decide +kernel
theorem dX11_init_133 : decode cX11_init 133 = .ok (.invokespecial 64, 3) := by decide +kernel
theorem dX11_init_136 : decode cX11_init 136 = .ok (.putfield 71, 3) := by decide +kernel
theorem dX11_init_139 : decode cX11_init 139 = .ok (.aload_n 0, 1) := by decide +kernel
theorem dX11_init_140 : decode cX11_init 140 = .ok (.new 23, 3) := by decide +kernel
theorem dX11_init_143 : decode cX11_init 143 = .ok (.dup, 1) := by decide +kernel
theorem dX11_init_144 : decode cX11_init 144 = .ok (.invokespecial 25, 3) := by decide +kernel
theorem dX11_init_147 : decode cX11_init 147 = .ok (.putfield 74, 3) := by decide +kernel
theorem dX11_init_150 : decode cX11_init 150 = .ok (.aload_n 0, 1) := by decide +kernel
theorem dX11_init_151 : decode cX11_init 151 = .ok (.bipush 8, 2) := by decide +kernel
theorem dX11_init_153 : decode cX11_init 153 = .ok (.anewarray 23, 3) := by decide +kernel
theorem dX11_init_156 : decode cX11_init 156 = .ok (.putfield 77, 3) := by decide +kernel
theorem dX11_init_159 : decode cX11_init 159 = .ok (.aload_n 0, 1) := by decide +kernel
theorem dX11_init_160 : decode cX11_init 160 = .ok (.iconst 2, 1) := by decide +kernel
theorem dX11_init_161 : decode cX11_init 161 = .ok (.anewarray 81, 3) := by decide +kernel
theorem dX11_init_164 : decode cX11_init 164 = .ok (.putfield 83, 3) := by decide +kernel
theorem dX11_init_167 : decode cX11_init 167 = .ok (.aload_n 0, 1) := by decide +kernel
theorem dX11_init_168 : decode cX11_init 168 = .ok (.iconst 4, 1) := by decide +kernel
theorem dX11_init_169 : decode cX11_init 169 = .ok (.newarray .int, 2) := by decide +kernel
theorem dX11_init_171 : decode cX11_init 171 = .ok (.putfield 87, 3) := by decide +kernel
theorem dX11_init_174 : decode cX11_init 174 = .ok (.aload_n 0, 1) := by decide +kernel
theorem dX11_init_175 : decode cX11_init 175 = .ok (.bipush 24, 2) := by decide +kernel
theorem dX11_init_177 : decode cX11_init 177 = .ok (.newarray .byte, 2) := by decide +kernel
theorem dX11_init_179 : decode cX11_init 179 = .ok (.putfield 91, 3) := by decide +kernel
theorem dX11_init_182 : decode cX11_init 182 = .ok (.iconst 0, 1) := by decide +kernel
theorem dX11_init_183 : decode cX11_init 183 = .ok (.istore_n 1, 1) := by decide +kernel
theorem dX11_init_184 : decode cX11_init 184 = .ok (.iload_n 1, 1) := by decide +kernel
theorem dX11_init_185 : decode cX11_init 185 = .ok (.aload_n 0, 1) := by decide +kernel
theorem dX11_init_186 : decode cX11_init 186 = .ok (.getfield 77, 3) := by decide +kernel
theorem dX11_init_189 : decode cX11_init 189 = .ok (.arraylength, 1) := by decide +kernel
theorem dX11_init_190 : decode cX11_init 190 = .ok (.if_icmp .ge 22, 3) := by decide +kernel
theorem dX11_init_193 : decode cX11_init 193 = .ok (.aload_n 0, 1) := by decide +kernel
theorem dX11_init_194 : decode cX11_init 194 = .ok (.getfield 77, 3) := by decide +kernel
theorem dX11_init_197 : decode cX11_init 197 = .ok (.iload_n 1, 1) := by decide +kernel
theorem dX11_init_198 : decode cX11_init 198 = .ok (.new 23, 3) := by decide +kernel
theorem dX11_init_201 : decode cX11_init 201 = .ok (.dup, 1) := by decide +kernel
theorem dX11_init_202 : decode cX11_init 202 = .ok (.invokespecial 25, 3) := by decide +kernel
theorem dX11_init_205 : decode cX11_init 205 = .ok (.aastore, 1) := by decide +kernel
theorem dX11_init_206 : decode cX11_init 206 = .ok (.iinc 1 1, 3) := by decide +kernel
theorem dX11_init_209 : decode cX11_init 209 = .ok (.goto (-25), 3) := by decide +kernel
theorem dX11_init_212 : decode cX11_init 212 = .ok (.iconst 0, 1) := by decide +kernel
theorem dX11_init_213 : decode cX11_init 213 = .ok (.istore_n 1, 1) := by decide +kernel
theorem dX11_init_214 : decode cX11_init 214 = .ok (.iload_n 1, 1) := by decide +kernel
theorem dX11_init_215 : decode cX11_init 215 = .ok (.aload_n 0, 1) := by decide +kernel
theorem dX11_init_216 : decode cX11_init 216 = .ok (.getfield 83, 3) := by decide +kernel
theorem dX11_init_219 : decode cX11_init 219 = .ok (.arraylength, 1) := by decide +kernel
theorem dX11_init_220 : decode cX11_init 220 = .ok (.if_icmp .ge 22, 3) := by decide +kernel
theorem dX11_init_223 : decode cX11_init 223 = .ok (.aload_n 0, 1) := by decide +kernel
theorem dX11_init_224 : decode cX11_init 224 = .ok (.getfield 83, 3) := by decide +kernel
theorem dX11_init_227 : decode cX11_init 227 = .ok (.iload_n 1, 1) := by decide +kernel
theorem dX11_init_228 : decode cX11_init 228 = .ok (.new 81, 3) := by decide +kernel
theorem dX11_init_231 : decode cX11_init 231 = .ok (.dup, 1) := by decide +kernel
theorem dX11_init_232 : decode cX11_init 232 = .ok (.invokespecial 95, 3) := by decide +kernel
theorem dX11_init_235 : decode cX11_init 235 = .ok (.aastore, 1) := by decide +kernel
theorem dX11_init_236 : decode cX11_init 236 = .ok (.iinc 1 1, 3) := by decide +kernel
theorem dX11_init_239 : decode cX11_init 239 = .ok (.goto (-25), 3) := by decide +kernel
theorem dX11_init_242 : decode cX11_init 242 = .ok (.aload_n 0, 1) := by decide +kernel
theorem dX11_init_243 : decode cX11_init 243 = .ok (.getfield 87, 3) := by decide +kernel
theorem dX11_init_246 : decode cX11_init 246 = .ok (.iconst (-1), 1) := by decide +kernel
theorem dX11_init_247 : decode cX11_init 247 = .ok (.invokestatic 96, 3) := by decide +kernel
theorem dX11_init_250 : decode cX11_init 250 = .ok (.return_, 1) := by decide +kernel
abbrev M_X11_init : mM := (cX11_init, 2, RX11, none, true, 4, 90, 191, 13434)
theorem gX11_init : cN yX11_init M_X11_init 0 := ⟨(wsl_1 _ (List.mem_of_getElem? (i := 8) rfl)), (wsl_1 _ (List.mem_of_getElem? (i := 2) rfl)), (wsl_1 _ (List.mem_of_getElem? (i := 9) rfl)), rfl, rfl, by decide +kernel⟩
noncomputable def fX11_init (n : Int) (h : hH) (a0 : Int) : Option hH :=
  (alc h (n) 19 0).bind fun h5_4 =>
  (fX9_init (n + 1) h5_4 n).bind fun h9_6 =>
  (pput h9_6 a0 0 n).bind fun h12_7 =>
  (alc h12_7 (n + 3) 14 0).bind fun h16_9 =>
  (fX4_init (n + 4) h16_9 (n + 3)).bind fun h20_11 =>
  (pput h20_11 a0 1 (n + 3)).bind fun h23_12 =>
  (alc h23_12 (n + 12) 18 0).bind fun h27_14 =>
  (fX8_init (n + 13) h27_14 (n + 12)).bind fun h31_16 =>
  (pput h31_16 a0 2 (n + 12)).bind fun h34_17 =>
  (alc h34_17 (n + 21) 16 0).bind fun h38_19 =>
  (fX6_init (n + 22) h38_19 (n + 21)).bind fun h42_21 =>
  (pput h42_21 a0 3 (n + 21)).bind fun h45_22 =>
  (alc h45_22 (n + 23) 15 0).bind fun h49_24 =>
  (nng (h49_24 a0 0)).bind fun _ =>
  (fX5_init (n + 24) h49_24 (n + 23) (h49_24 a0 0)).bind fun h57_28 =>
  (pput h57_28 a0 4 (n + 23)).bind fun h60_29 =>
  (alc h60_29 (n + 33) 17 0).bind fun h64_31 =>
  (nng (h64_31 a0 0)).bind fun _ =>
  (nng (h64_31 a0 1)).bind fun _ =>
  (fX7_init (n + 34) h64_31 (n + 33) (h64_31 a0 0) (h64_31 a0 1)).bind fun h76_37 =>
  (pput h76_37 a0 5 (n + 33)).bind fun h79_38 =>
  (alc h79_38 (n + 36) 12 0).bind fun h83_40 =>
  (nng (h83_40 a0 0)).bind fun _ =>
  (nng (h83_40 a0 1)).bind fun _ =>
  (fX2_init (n + 37) h83_40 (n + 36) (h83_40 a0 0) (h83_40 a0 1)).bind fun h95_46 =>
  (pput h95_46 a0 6 (n + 36)).bind fun h98_47 =>
  (alc h98_47 (n + 38) 11 0).bind fun h102_49 =>
  (nng (h102_49 a0 1)).bind fun _ =>
  (nng (h102_49 a0 2)).bind fun _ =>
  (fX1_init (n + 39) h102_49 (n + 38) (h102_49 a0 1) (h102_49 a0 2)).bind fun h114_55 =>
  (pput h114_55 a0 7 (n + 38)).bind fun h117_56 =>
  (alc h117_56 (n + 51) 11 0).bind fun h121_58 =>
  (nng (h121_58 a0 1)).bind fun _ =>
  (nng (h121_58 a0 2)).bind fun _ =>
  (fX1_init (n + 52) h121_58 (n + 51) (h121_58 a0 1) (h121_58 a0 2)).bind fun h133_64 =>
  (pput h133_64 a0 8 (n + 51)).bind fun h136_65 =>
  (alc h136_65 (n + 64) 18 0).bind fun h140_67 =>
  (fX8_init (n + 65) h140_67 (n + 64)).bind fun h144_69 =>
  (pput h144_69 a0 9 (n + 64)).bind fun h147_70 =>
  (alc h147_70 (n + 73) 54 8).bind fun h153_73 =>
  (pput h153_73 a0 10 (n + 73)).bind fun h156_74 =>
  (alc h156_74 (n + 74) 55 2).bind fun h161_77 =>
  (pput h161_77 a0 12 (n + 74)).bind fun h164_78 =>
  (alc h164_78 (n + 75) 50 4).bind fun h169_81 =>
  (pput h169_81 a0 13 (n + 75)).bind fun h171_82 =>
  (alc h171_82 (n + 76) 52 24).bind fun h177_85 =>
  (pput h177_85 a0 14 (n + 76)).bind fun h179_86 =>
  (nng (h179_86 a0 10)).bind fun _ =>
  if 0 < h179_86 (h179_86 a0 10) (-1) then
  (nng (h179_86 a0 10)).bind fun _ =>
  (alc h179_86 (n + 77) 18 0).bind fun h198_97 =>
  (fX8_init (n + 78) h198_97 (n + 77)).bind fun h202_99 =>
  (nng (n + 77)).bind fun _ =>
  (aput h202_99 (h179_86 a0 10) 0 (n + 77)).bind fun h205_100 =>
  (nng (h205_100 a0 10)).bind fun _ =>
  if w32 (0 + 1) < h205_100 (h205_100 a0 10) (-1) then
  (nng (h205_100 a0 10)).bind fun _ =>
  (alc h205_100 (n + 86) 18 0).bind fun h198_111 =>
  (fX8_init (n + 87) h198_111 (n + 86)).bind fun h202_113 =>
  (nng (n + 86)).bind fun _ =>
  (aput h202_113 (h205_100 a0 10) (w32 (0 + 1)) (n + 86)).bind fun h205_114 =>
  (nng (h205_114 a0 10)).bind fun _ =>
  if w32 (w32 (0 + 1) + 1) < h205_114 (h205_114 a0 10) (-1) then
  (nng (h205_114 a0 10)).bind fun _ =>
  (alc h205_114 (n + 95) 18 0).bind fun h198_125 =>
  (fX8_init (n + 96) h198_125 (n + 95)).bind fun h202_127 =>
  (nng (n + 95)).bind fun _ =>
  (aput h202_127 (h205_114 a0 10) (w32 (w32 (0 + 1) + 1)) (n + 95)).bind fun h205_128 =>
  (nng (h205_128 a0 10)).bind fun _ =>
  if w32 (w32 (w32 (0 + 1) + 1) + 1) < h205_128 (h205_128 a0 10) (-1) then
  (nng (h205_128 a0 10)).bind fun _ =>
  (alc h205_128 (n + 104) 18 0).bind fun h198_139 =>
  (fX8_init (n + 105) h198_139 (n + 104)).bind fun h202_141 =>
  (nng (n + 104)).bind fun _ =>
  (aput h202_141 (h205_128 a0 10) (w32 (w32 (w32 (0 + 1) + 1) + 1)) (n + 104)).bind fun h205_142 =>
  (nng (h205_142 a0 10)).bind fun _ =>
  if w32 (w32 (w32 (w32 (0 + 1) + 1) + 1) + 1) < h205_142 (h205_142 a0 10) (-1) then
  (nng (h205_142 a0 10)).bind fun _ =>
  (alc h205_142 (n + 113) 18 0).bind fun h198_153 =>
  (fX8_init (n + 114) h198_153 (n + 113)).bind fun h202_155 =>
  (nng (n + 113)).bind fun _ =>
  (aput h202_155 (h205_142 a0 10) (w32 (w32 (w32 (w32 (0 + 1) + 1) + 1) + 1)) (n + 113)).bind fun h205_156 =>
  (nng (h205_156 a0 10)).bind fun _ =>
  if w32 (w32 (w32 (w32 (w32 (0 + 1) + 1) + 1) + 1) + 1) < h205_156 (h205_156 a0 10) (-1) then
  (nng (h205_156 a0 10)).bind fun _ =>
  (alc h205_156 (n + 122) 18 0).bind fun h198_167 =>
  (fX8_init (n + 123) h198_167 (n + 122)).bind fun h202_169 =>
  (nng (n + 122)).bind fun _ =>
  (aput h202_169 (h205_156 a0 10) (w32 (w32 (w32 (w32 (w32 (0 + 1) + 1) + 1) + 1) + 1)) (n + 122)).bind fun h205_170 =>
  (nng (h205_170 a0 10)).bind fun _ =>
  if w32 (w32 (w32 (w32 (w32 (w32 (0 + 1) + 1) + 1) + 1) + 1) + 1) < h205_170 (h205_170 a0 10) (-1) then
  (nng (h205_170 a0 10)).bind fun _ =>
  (alc h205_170 (n + 131) 18 0).bind fun h198_181 =>
  (fX8_init (n + 132) h198_181 (n + 131)).bind fun h202_183 =>
  (nng (n + 131)).bind fun _ =>
  (aput h202_183 (h205_170 a0 10) (w32 (w32 (w32 (w32 (w32 (w32 (0 + 1) + 1) + 1) + 1) + 1) + 1)) (n + 131)).bind fun h205_184 =>
  (nng (h205_184 a0 10)).bind fun _ =>
  if w32 (w32 (w32 (w32 (w32 (w32 (w32 (0 + 1) + 1) + 1) + 1) + 1) + 1) + 1) < h205_184 (h205_184 a0 10) (-1) then
  (nng (h205_184 a0 10)).bind fun _ =>
  (alc h205_184 (n + 140) 18 0).bind fun h198_195 =>
  (fX8_init (n + 141) h198_195 (n + 140)).bind fun h202_197 =>
  (nng (n + 140)).bind fun _ =>
  (aput h202_197 (h205_184 a0 10) (w32 (w32 (w32 (w32 (w32 (w32 (w32 (0 + 1) + 1) + 1) + 1) + 1) + 1) + 1)) (n + 140)).bind fun h205_198 =>
  (nng (h205_198 a0 10)).bind fun _ =>
  if w32 (w32 (w32 (w32 (w32 (w32 (w32 (w32 (0 + 1) + 1) + 1) + 1) + 1) + 1) + 1) + 1) < h205_198 (h205_198 a0 10) (-1) then none else
  (nng (h205_198 a0 12)).bind fun _ =>
  if 0 < h205_198 (h205_198 a0 12) (-1) then
  (nng (h205_198 a0 12)).bind fun _ =>
  (alc h205_198 (n + 149) 10 0).bind fun h228_216 =>
  (fX0_init (n + 150) h228_216 (n + 149)).bind fun h232_218 =>
  (nng (n + 149)).bind fun _ =>
  (aput h232_218 (h205_198 a0 12) 0 (n + 149)).bind fun h235_219 =>
  (nng (h235_219 a0 12)).bind fun _ =>
  if w32 (0 + 1) < h235_219 (h235_219 a0 12) (-1) then
  (nng (h235_219 a0 12)).bind fun _ =>
  (alc h235_219 (n + 170) 10 0).bind fun h228_230 =>
  (fX0_init (n + 171) h228_230 (n + 170)).bind fun h232_232 =>
  (nng (n + 170)).bind fun _ =>
  (aput h232_232 (h235_219 a0 12) (w32 (0 + 1)) (n + 170)).bind fun h235_233 =>
  (nng (h235_233 a0 12)).bind fun _ =>
  if w32 (w32 (0 + 1) + 1) < h235_233 (h235_233 a0 12) (-1) then none else
  (nng (h235_233 a0 13)).bind fun _ =>
  (fJ7_fill_53178 h235_233 (h235_233 a0 13) (-1)).bind fun h247_244 =>
  some h247_244
  else none
  else none
  else none
  else none
  else none
  else none
  else none
  else none
  else none
  else none
set_option maxRecDepth 100000 in
set_option maxHeartbeats 8000000 in
theorem oX11_init_w {p : Program} {l : Launch} {e : Env} {R : Room} {s : State} {m : MethodId} {args : Array Value} {below : List Frame} {meth : Method} {c : Code} {D : va_G} {G : gG} {A : Nat → Prop} {H0 : Heap} {G0 : gG} {n0 : Int} {n : Int} {h r : hH} {a0 : Int} (hAO54 : va_AO RX8 s) (hAO55 : va_AO RX0 s) (hr : fX11_init n h a0 = some r) : Wc p l e R s m args below meth c D G G0 A H0 false n0 M_X11_init (none, r) 0 0 0 [(0, (21, a0))] [] h := by
  unfold fX11_init at hr
  refine c_aload_n dX11_init_0 rfl 0 rfl (nl rfl) ?_
  refine c_objInit (t := 21) (by decide) (by decide) dX11_init_1 (wsl_1 _ (List.mem_of_getElem? (i := 10) rfl)) (wsl_1 _ (List.mem_of_getElem? (i := 11) rfl)) (wsl_1 _ (List.mem_of_getElem? (i := 12) rfl)) ⟨nl rfl, nl rfl⟩ ?_
  refine c_aload_n dX11_init_4 rfl 0 rfl (nl rfl) ?_
  obtain ⟨h5_4, hg5_4, hr⟩ := bnd hr
  refine c_new 9 (N := 10) dX11_init_5 hg5_4 rfl (by decide) rfl tyX9 tyX9_ok inlX9 (wsl_1 _ (List.mem_of_getElem? (i := 13) rfl)) (wsl_1 _ (List.mem_of_getElem? (i := 14) rfl)) (wsl_1 _ (List.mem_of_getElem? (i := 15) rfl)) ⟨nl rfl, nl rfl⟩ (by decide +kernel) (fun G => ?_)
  refine c_dup dX11_init_8 (Nat.ne_of_beq_eq_false rfl) ?_
  obtain ⟨h9_6, hg9_6, hr⟩ := bnd hr
  refine c_callIN (host := "FollowingRefs") (t := 19) (o := n) (as := []) (rest := [(19, n), (21, a0)]) (X := (none, h9_6)) (oX9_init hg9_6) (by decide) (by decide) gX9_init rfl (List.mem_of_getElem? (i := 10) rfl) rfl dX11_init_9 rfl (fun G => ?_)
  obtain ⟨h12_7, hg12_7, hr⟩ := bnd hr
  refine c_putF 11 0 (t := 19) (ty := (.object "FollowingRefs$Text")) (ref := "FollowingRefs") hg12_7 rfl tyX11 tyX11_ok nmX11 rfl (by decide) rfl (by decide) inlX11 (wsl_1 _ (List.mem_of_getElem? (i := 16) rfl)) rfl rfl rfl rfl (by decide +kernel) (by decide) rfl (Or.inr (Or.inr (Or.inr ⟨by decide, Or.inl ⟨_, rfl⟩⟩))) dX11_init_12 ?_
  refine c_aload_n dX11_init_15 rfl 0 rfl (nl rfl) ?_
  obtain ⟨h16_9, hg16_9, hr⟩ := bnd hr
  refine c_new 4 (N := 12) dX11_init_16 hg16_9 rfl (by decide) rfl tyX4 tyX4_ok inlX4 (wsl_1 _ (List.mem_of_getElem? (i := 17) rfl)) (wsl_1 _ (List.mem_of_getElem? (i := 18) rfl)) (wsl_1 _ (List.mem_of_getElem? (i := 19) rfl)) ⟨nl rfl, nl rfl⟩ (by decide +kernel) (fun G => ?_)
  refine c_dup dX11_init_19 (Nat.ne_of_beq_eq_false rfl) ?_
  obtain ⟨h20_11, hg20_11, hr⟩ := bnd hr
  refine c_callIN (host := "FollowingRefs") (t := 14) (o := n + 3) (as := []) (rest := [(14, n + 3), (21, a0)]) (X := (none, h20_11)) (oX4_init hg20_11) (by decide) (by decide) gX4_init rfl (List.mem_of_getElem? (i := 11) rfl) rfl dX11_init_20 rfl (fun G => ?_)
  obtain ⟨h23_12, hg23_12, hr⟩ := bnd hr
  refine c_putF 11 1 (t := 14) (ty := (.object "FollowingRefs$Schema")) (ref := "FollowingRefs") hg23_12 rfl tyX11 tyX11_ok nmX11 rfl (by decide) rfl (by decide) inlX11 (wsl_1 _ (List.mem_of_getElem? (i := 20) rfl)) rfl rfl rfl rfl (by decide +kernel) (by decide) rfl (Or.inr (Or.inr (Or.inr ⟨by decide, Or.inl ⟨_, rfl⟩⟩))) dX11_init_23 ?_
  refine c_aload_n dX11_init_26 rfl 0 rfl (nl rfl) ?_
  obtain ⟨h27_14, hg27_14, hr⟩ := bnd hr
  refine c_new 8 (N := 3) dX11_init_27 hg27_14 rfl (by decide) rfl tyX8 tyX8_ok inlX8 (wsl_1 _ (List.mem_of_getElem? (i := 21) rfl)) (wsl_1 _ (List.mem_of_getElem? (i := 22) rfl)) (wsl_1 _ (List.mem_of_getElem? (i := 23) rfl)) ⟨nl rfl, nl rfl⟩ (by decide +kernel) (fun G => ?_)
  refine c_dup dX11_init_30 (Nat.ne_of_beq_eq_false rfl) ?_
  obtain ⟨h31_16, hg31_16, hr⟩ := bnd hr
  refine c_callIN (host := "FollowingRefs") (t := 18) (o := n + 12) (as := []) (rest := [(18, n + 12), (21, a0)]) (X := (none, h31_16)) (oX8_init hg31_16) (by decide) (by decide) gX8_init rfl (List.mem_of_getElem? (i := 12) rfl) rfl dX11_init_31 rfl (fun G => ?_)
  obtain ⟨h34_17, hg34_17, hr⟩ := bnd hr
  refine c_putF 11 2 (t := 18) (ty := (.object "FollowingRefs$State")) (ref := "FollowingRefs") hg34_17 rfl tyX11 tyX11_ok nmX11 rfl (by decide) rfl (by decide) inlX11 (wsl_2 _ (List.mem_of_getElem? (i := 0) rfl)) rfl rfl rfl rfl (by decide +kernel) (by decide) rfl (Or.inr (Or.inr (Or.inr ⟨by decide, Or.inl ⟨_, rfl⟩⟩))) dX11_init_34 ?_
  refine c_aload_n dX11_init_37 rfl 0 rfl (nl rfl) ?_
  obtain ⟨h38_19, hg38_19, hr⟩ := bnd hr
  refine c_new 6 (N := 4) dX11_init_38 hg38_19 rfl (by decide) rfl tyX6 tyX6_ok inlX6 (wsl_2 _ (List.mem_of_getElem? (i := 1) rfl)) (wsl_2 _ (List.mem_of_getElem? (i := 2) rfl)) (wsl_2 _ (List.mem_of_getElem? (i := 3) rfl)) ⟨nl rfl, nl rfl⟩ (by decide +kernel) (fun G => ?_)
  refine c_dup dX11_init_41 (Nat.ne_of_beq_eq_false rfl) ?_
  obtain ⟨h42_21, hg42_21, hr⟩ := bnd hr
  refine c_callIN (host := "FollowingRefs") (t := 16) (o := n + 21) (as := []) (rest := [(16, n + 21), (21, a0)]) (X := (none, h42_21)) (oX6_init hg42_21) (by decide) (by decide) gX6_init rfl (List.mem_of_getElem? (i := 13) rfl) rfl dX11_init_42 rfl (fun G => ?_)
  obtain ⟨h45_22, hg45_22, hr⟩ := bnd hr
  refine c_putF 11 3 (t := 16) (ty := (.object "FollowingRefs$Sentence")) (ref := "FollowingRefs") hg45_22 rfl tyX11 tyX11_ok nmX11 rfl (by decide) rfl (by decide) inlX11 (wsl_2 _ (List.mem_of_getElem? (i := 4) rfl)) rfl rfl rfl rfl (by decide +kernel) (by decide) rfl (Or.inr (Or.inr (Or.inr ⟨by decide, Or.inl ⟨_, rfl⟩⟩))) dX11_init_45 ?_
  refine c_aload_n dX11_init_48 rfl 0 rfl (nl rfl) ?_
  obtain ⟨h49_24, hg49_24, hr⟩ := bnd hr
  refine c_new 5 (N := 6) dX11_init_49 hg49_24 rfl (by decide) rfl tyX5 tyX5_ok inlX5 (wsl_2 _ (List.mem_of_getElem? (i := 5) rfl)) (wsl_2 _ (List.mem_of_getElem? (i := 6) rfl)) (wsl_2 _ (List.mem_of_getElem? (i := 7) rfl)) ⟨nl rfl, nl rfl⟩ (by decide +kernel) (fun G => ?_)
  refine c_dup dX11_init_52 (Nat.ne_of_beq_eq_false rfl) ?_
  refine c_aload_n dX11_init_53 rfl 0 rfl (nl rfl) ?_
  refine c_get 11 0 (o := a0) (w := (119, h49_24 a0 0)) (T := TX11) (ref := "FollowingRefs") rfl (by decide) rfl (by decide) inlX11 (wsl_1 _ (List.mem_of_getElem? (i := 16) rfl)) rfl dX11_init_54 rfl ?_
  obtain ⟨_z54_27, hz54_27, hr⟩ := bnd hr
  refine c_scast 0 (v := (119, h49_24 a0 0)) (w := (19, h49_24 a0 0)) rfl (cnn (t := 16)) (hTn (t := 16) (by decide) (nng_ok hz54_27)) (st' := [(19, h49_24 a0 0), (15, n + 23), (15, n + 23), (21, a0)]) rfl ?_
  obtain ⟨h57_28, hg57_28, hr⟩ := bnd hr
  refine c_callI (t := 15) (o := n + 23) (as := [(19, h49_24 a0 0)]) (rest := [(15, n + 23), (21, a0)]) (X := (none, h57_28)) (oX5_init hg57_28) (by decide) (by decide) gX5_init rfl (wsl_4 _ (List.mem_of_getElem? (i := 18) rfl)) rfl dX11_init_57 rfl (fun G => ?_)
  obtain ⟨h60_29, hg60_29, hr⟩ := bnd hr
  refine c_putF 11 4 (t := 15) (ty := (.object "FollowingRefs$SchemaReader")) (ref := "FollowingRefs") hg60_29 rfl tyX11 tyX11_ok nmX11 rfl (by decide) rfl (by decide) inlX11 (wsl_2 _ (List.mem_of_getElem? (i := 8) rfl)) rfl rfl rfl rfl (by decide +kernel) (by decide) rfl (Or.inr (Or.inr (Or.inr ⟨by decide, Or.inl ⟨_, rfl⟩⟩))) dX11_init_60 ?_
  refine c_aload_n dX11_init_63 rfl 0 rfl (nl rfl) ?_
  obtain ⟨h64_31, hg64_31, hr⟩ := bnd hr
  refine c_new 7 (N := 3) dX11_init_64 hg64_31 rfl (by decide) rfl tyX7 tyX7_ok inlX7 (wsl_2 _ (List.mem_of_getElem? (i := 9) rfl)) (wsl_2 _ (List.mem_of_getElem? (i := 10) rfl)) (wsl_2 _ (List.mem_of_getElem? (i := 11) rfl)) ⟨nl rfl, nl rfl⟩ (by decide +kernel) (fun G => ?_)
  refine c_dup dX11_init_67 (Nat.ne_of_beq_eq_false rfl) ?_
  refine c_aload_n dX11_init_68 rfl 0 rfl (nl rfl) ?_
  refine c_get 11 0 (o := a0) (w := (119, h64_31 a0 0)) (T := TX11) (ref := "FollowingRefs") rfl (by decide) rfl (by decide) inlX11 (wsl_1 _ (List.mem_of_getElem? (i := 16) rfl)) rfl dX11_init_69 rfl ?_
  obtain ⟨_z69_34, hz69_34, hr⟩ := bnd hr
  refine c_scast 0 (v := (119, h64_31 a0 0)) (w := (19, h64_31 a0 0)) rfl (cnn (t := 16)) (hTn (t := 16) (by decide) (nng_ok hz69_34)) (st' := [(19, h64_31 a0 0), (17, n + 33), (17, n + 33), (21, a0)]) rfl ?_
  refine c_aload_n dX11_init_72 rfl 0 rfl (nl rfl) ?_
  refine c_get 11 1 (o := a0) (w := (114, h64_31 a0 1)) (T := TX11) (ref := "FollowingRefs") rfl (by decide) rfl (by decide) inlX11 (wsl_1 _ (List.mem_of_getElem? (i := 20) rfl)) rfl dX11_init_73 rfl ?_
  obtain ⟨_z73_36, hz73_36, hr⟩ := bnd hr
  refine c_scast 0 (v := (114, h64_31 a0 1)) (w := (14, h64_31 a0 1)) rfl (cnn (t := 11)) (hTn (t := 11) (by decide) (nng_ok hz73_36)) (st' := [(14, h64_31 a0 1), (19, h64_31 a0 0), (17, n + 33), (17, n + 33), (21, a0)]) rfl ?_
  obtain ⟨h76_37, hg76_37, hr⟩ := bnd hr
  refine c_callI (t := 17) (o := n + 33) (as := [(19, h64_31 a0 0), (14, h64_31 a0 1)]) (rest := [(17, n + 33), (21, a0)]) (X := (none, h76_37)) (oX7_init hg76_37) (by decide) (by decide) gX7_init rfl (wsl_5 _ (List.mem_of_getElem? (i := 1) rfl)) rfl dX11_init_76 rfl (fun G => ?_)
  obtain ⟨h79_38, hg79_38, hr⟩ := bnd hr
  refine c_putF 11 5 (t := 17) (ty := (.object "FollowingRefs$SentenceReader")) (ref := "FollowingRefs") hg79_38 rfl tyX11 tyX11_ok nmX11 rfl (by decide) rfl (by decide) inlX11 (wsl_2 _ (List.mem_of_getElem? (i := 12) rfl)) rfl rfl rfl rfl (by decide +kernel) (by decide) rfl (Or.inr (Or.inr (Or.inr ⟨by decide, Or.inl ⟨_, rfl⟩⟩))) dX11_init_79 ?_
  refine c_aload_n dX11_init_82 rfl 0 rfl (nl rfl) ?_
  obtain ⟨h83_40, hg83_40, hr⟩ := bnd hr
  refine c_new 2 (N := 4) dX11_init_83 hg83_40 rfl (by decide) rfl tyX2 tyX2_ok inlX2 (wsl_2 _ (List.mem_of_getElem? (i := 13) rfl)) (wsl_2 _ (List.mem_of_getElem? (i := 14) rfl)) (wsl_2 _ (List.mem_of_getElem? (i := 15) rfl)) ⟨nl rfl, nl rfl⟩ (by decide +kernel) (fun G => ?_)
  refine c_dup dX11_init_86 (Nat.ne_of_beq_eq_false rfl) ?_
  refine c_aload_n dX11_init_87 rfl 0 rfl (nl rfl) ?_
  refine c_get 11 0 (o := a0) (w := (119, h83_40 a0 0)) (T := TX11) (ref := "FollowingRefs") rfl (by decide) rfl (by decide) inlX11 (wsl_1 _ (List.mem_of_getElem? (i := 16) rfl)) rfl dX11_init_88 rfl ?_
  obtain ⟨_z88_43, hz88_43, hr⟩ := bnd hr
  refine c_scast 0 (v := (119, h83_40 a0 0)) (w := (19, h83_40 a0 0)) rfl (cnn (t := 16)) (hTn (t := 16) (by decide) (nng_ok hz88_43)) (st' := [(19, h83_40 a0 0), (12, n + 36), (12, n + 36), (21, a0)]) rfl ?_
  refine c_aload_n dX11_init_91 rfl 0 rfl (nl rfl) ?_
  refine c_get 11 1 (o := a0) (w := (114, h83_40 a0 1)) (T := TX11) (ref := "FollowingRefs") rfl (by decide) rfl (by decide) inlX11 (wsl_1 _ (List.mem_of_getElem? (i := 20) rfl)) rfl dX11_init_92 rfl ?_
  obtain ⟨_z92_45, hz92_45, hr⟩ := bnd hr
  refine c_scast 0 (v := (114, h83_40 a0 1)) (w := (14, h83_40 a0 1)) rfl (cnn (t := 11)) (hTn (t := 11) (by decide) (nng_ok hz92_45)) (st' := [(14, h83_40 a0 1), (19, h83_40 a0 0), (12, n + 36), (12, n + 36), (21, a0)]) rfl ?_
  obtain ⟨h95_46, hg95_46, hr⟩ := bnd hr
  refine c_callI (t := 12) (o := n + 36) (as := [(19, h83_40 a0 0), (14, h83_40 a0 1)]) (rest := [(12, n + 36), (21, a0)]) (X := (none, h95_46)) (oX2_init hg95_46) (by decide) (by decide) gX2_init rfl (wsl_5 _ (List.mem_of_getElem? (i := 9) rfl)) rfl dX11_init_95 rfl (fun G => ?_)
  obtain ⟨h98_47, hg98_47, hr⟩ := bnd hr
  refine c_putF 11 6 (t := 12) (ty := (.object "FollowingRefs$Lines")) (ref := "FollowingRefs") hg98_47 rfl tyX11 tyX11_ok nmX11 rfl (by decide) rfl (by decide) inlX11 (wsl_2 _ (List.mem_of_getElem? (i := 16) rfl)) rfl rfl rfl rfl (by decide +kernel) (by decide) rfl (Or.inr (Or.inr (Or.inr ⟨by decide, Or.inl ⟨_, rfl⟩⟩))) dX11_init_98 ?_
  refine c_aload_n dX11_init_101 rfl 0 rfl (nl rfl) ?_
  obtain ⟨h102_49, hg102_49, hr⟩ := bnd hr
  refine c_new 1 (N := 17) dX11_init_102 hg102_49 rfl (by decide) rfl tyX1 tyX1_ok inlX1 (wsl_2 _ (List.mem_of_getElem? (i := 17) rfl)) (wsl_2 _ (List.mem_of_getElem? (i := 18) rfl)) (wsl_2 _ (List.mem_of_getElem? (i := 19) rfl)) ⟨nl rfl, nl rfl⟩ (by decide +kernel) (fun G => ?_)
  refine c_dup dX11_init_105 (Nat.ne_of_beq_eq_false rfl) ?_
  refine c_aload_n dX11_init_106 rfl 0 rfl (nl rfl) ?_
  refine c_get 11 1 (o := a0) (w := (114, h102_49 a0 1)) (T := TX11) (ref := "FollowingRefs") rfl (by decide) rfl (by decide) inlX11 (wsl_1 _ (List.mem_of_getElem? (i := 20) rfl)) rfl dX11_init_107 rfl ?_
  obtain ⟨_z107_52, hz107_52, hr⟩ := bnd hr
  refine c_scast 0 (v := (114, h102_49 a0 1)) (w := (14, h102_49 a0 1)) rfl (cnn (t := 11)) (hTn (t := 11) (by decide) (nng_ok hz107_52)) (st' := [(14, h102_49 a0 1), (11, n + 38), (11, n + 38), (21, a0)]) rfl ?_
  refine c_aload_n dX11_init_110 rfl 0 rfl (nl rfl) ?_
  refine c_get 11 2 (o := a0) (w := (118, h102_49 a0 2)) (T := TX11) (ref := "FollowingRefs") rfl (by decide) rfl (by decide) inlX11 (wsl_2 _ (List.mem_of_getElem? (i := 0) rfl)) rfl dX11_init_111 rfl ?_
  obtain ⟨_z111_54, hz111_54, hr⟩ := bnd hr
  refine c_scast 0 (v := (118, h102_49 a0 2)) (w := (18, h102_49 a0 2)) rfl (cnn (t := 15)) (hTn (t := 15) (by decide) (nng_ok hz111_54)) (st' := [(18, h102_49 a0 2), (14, h102_49 a0 1), (11, n + 38), (11, n + 38), (21, a0)]) rfl ?_
  obtain ⟨h114_55, hg114_55, hr⟩ := bnd hr
  refine c_callI (t := 11) (o := n + 38) (as := [(14, h102_49 a0 1), (18, h102_49 a0 2)]) (rest := [(11, n + 38), (21, a0)]) (X := (none, h114_55)) (oX1_init hg114_55) (by decide) (by decide) gX1_init rfl (wsl_5 _ (List.mem_of_getElem? (i := 16) rfl)) rfl dX11_init_114 rfl (fun G => ?_)
  obtain ⟨h117_56, hg117_56, hr⟩ := bnd hr
  refine c_putF 11 7 (t := 11) (ty := (.object "FollowingRefs$Judge")) (ref := "FollowingRefs") hg117_56 rfl tyX11 tyX11_ok nmX11 rfl (by decide) rfl (by decide) inlX11 (wsl_2 _ (List.mem_of_getElem? (i := 20) rfl)) rfl rfl rfl rfl (by decide +kernel) (by decide) rfl (Or.inr (Or.inr (Or.inr ⟨by decide, Or.inl ⟨_, rfl⟩⟩))) dX11_init_117 ?_
  refine c_aload_n dX11_init_120 rfl 0 rfl (nl rfl) ?_
  obtain ⟨h121_58, hg121_58, hr⟩ := bnd hr
  refine c_new 1 (N := 17) dX11_init_121 hg121_58 rfl (by decide) rfl tyX1 tyX1_ok inlX1 (wsl_2 _ (List.mem_of_getElem? (i := 17) rfl)) (wsl_2 _ (List.mem_of_getElem? (i := 18) rfl)) (wsl_2 _ (List.mem_of_getElem? (i := 19) rfl)) ⟨nl rfl, nl rfl⟩ (by decide +kernel) (fun G => ?_)
  refine c_dup dX11_init_124 (Nat.ne_of_beq_eq_false rfl) ?_
  refine c_aload_n dX11_init_125 rfl 0 rfl (nl rfl) ?_
  refine c_get 11 1 (o := a0) (w := (114, h121_58 a0 1)) (T := TX11) (ref := "FollowingRefs") rfl (by decide) rfl (by decide) inlX11 (wsl_1 _ (List.mem_of_getElem? (i := 20) rfl)) rfl dX11_init_126 rfl ?_
  obtain ⟨_z126_61, hz126_61, hr⟩ := bnd hr
  refine c_scast 0 (v := (114, h121_58 a0 1)) (w := (14, h121_58 a0 1)) rfl (cnn (t := 11)) (hTn (t := 11) (by decide) (nng_ok hz126_61)) (st' := [(14, h121_58 a0 1), (11, n + 51), (11, n + 51), (21, a0)]) rfl ?_
  refine c_aload_n dX11_init_129 rfl 0 rfl (nl rfl) ?_
  refine c_get 11 2 (o := a0) (w := (118, h121_58 a0 2)) (T := TX11) (ref := "FollowingRefs") rfl (by decide) rfl (by decide) inlX11 (wsl_2 _ (List.mem_of_getElem? (i := 0) rfl)) rfl dX11_init_130 rfl ?_
  obtain ⟨_z130_63, hz130_63, hr⟩ := bnd hr
  refine c_scast 0 (v := (118, h121_58 a0 2)) (w := (18, h121_58 a0 2)) rfl (cnn (t := 15)) (hTn (t := 15) (by decide) (nng_ok hz130_63)) (st' := [(18, h121_58 a0 2), (14, h121_58 a0 1), (11, n + 51), (11, n + 51), (21, a0)]) rfl ?_
  obtain ⟨h133_64, hg133_64, hr⟩ := bnd hr
  refine c_callI (t := 11) (o := n + 51) (as := [(14, h121_58 a0 1), (18, h121_58 a0 2)]) (rest := [(11, n + 51), (21, a0)]) (X := (none, h133_64)) (oX1_init hg133_64) (by decide) (by decide) gX1_init rfl (wsl_5 _ (List.mem_of_getElem? (i := 16) rfl)) rfl dX11_init_133 rfl (fun G => ?_)
  obtain ⟨h136_65, hg136_65, hr⟩ := bnd hr
  refine c_putF 11 8 (t := 11) (ty := (.object "FollowingRefs$Judge")) (ref := "FollowingRefs") hg136_65 rfl tyX11 tyX11_ok nmX11 rfl (by decide) rfl (by decide) inlX11 (wsl_2 _ (List.mem_of_getElem? (i := 21) rfl)) rfl rfl rfl rfl (by decide +kernel) (by decide) rfl (Or.inr (Or.inr (Or.inr ⟨by decide, Or.inl ⟨_, rfl⟩⟩))) dX11_init_136 ?_
  refine c_aload_n dX11_init_139 rfl 0 rfl (nl rfl) ?_
  obtain ⟨h140_67, hg140_67, hr⟩ := bnd hr
  refine c_new 8 (N := 3) dX11_init_140 hg140_67 rfl (by decide) rfl tyX8 tyX8_ok inlX8 (wsl_1 _ (List.mem_of_getElem? (i := 21) rfl)) (wsl_1 _ (List.mem_of_getElem? (i := 22) rfl)) (wsl_1 _ (List.mem_of_getElem? (i := 23) rfl)) ⟨nl rfl, nl rfl⟩ (by decide +kernel) (fun G => ?_)
  refine c_dup dX11_init_143 (Nat.ne_of_beq_eq_false rfl) ?_
  obtain ⟨h144_69, hg144_69, hr⟩ := bnd hr
  refine c_callIN (host := "FollowingRefs") (t := 18) (o := n + 64) (as := []) (rest := [(18, n + 64), (21, a0)]) (X := (none, h144_69)) (oX8_init hg144_69) (by decide) (by decide) gX8_init rfl (List.mem_of_getElem? (i := 12) rfl) rfl dX11_init_144 rfl (fun G => ?_)
  obtain ⟨h147_70, hg147_70, hr⟩ := bnd hr
  refine c_putF 11 9 (t := 18) (ty := (.object "FollowingRefs$State")) (ref := "FollowingRefs") hg147_70 rfl tyX11 tyX11_ok nmX11 rfl (by decide) rfl (by decide) inlX11 (wsl_2 _ (List.mem_of_getElem? (i := 22) rfl)) rfl rfl rfl rfl (by decide +kernel) (by decide) rfl (Or.inr (Or.inr (Or.inr ⟨by decide, Or.inl ⟨_, rfl⟩⟩))) dX11_init_147 ?_
  refine c_aload_n dX11_init_150 rfl 0 rfl (nl rfl) ?_
  refine c_bipush dX11_init_151 (by decide) (by decide) ?_
  obtain ⟨h153_73, hg153_73, hr⟩ := bnd hr
  refine c_newq (k9 := 4) (C := RX8) hAO54 dX11_init_153 hg153_73 (wsl_1 _ (List.mem_of_getElem? (i := 21) rfl)) (fun _ => rfl) (Or.inl rfl) ⟨nl rfl, nl rfl⟩ (fun G => ?_)
  obtain ⟨h156_74, hg156_74, hr⟩ := bnd hr
  refine c_putF 11 10 (t := 54) (ty := (.array (.object "FollowingRefs$State"))) (ref := "FollowingRefs") hg156_74 rfl tyX11 tyX11_ok nmX11 rfl (by decide) rfl (by decide) inlX11 (wsl_2 _ (List.mem_of_getElem? (i := 23) rfl)) rfl rfl rfl rfl (by decide +kernel) (by decide) rfl (Or.inr (Or.inr (Or.inr ⟨by decide, Or.inr ⟨_, rfl⟩⟩))) dX11_init_156 ?_
  refine c_aload_n dX11_init_159 rfl 0 rfl (nl rfl) ?_
  refine c_iconst dX11_init_160 (by decide) ?_
  obtain ⟨h161_77, hg161_77, hr⟩ := bnd hr
  refine c_newq (k9 := 5) (C := RX0) hAO55 dX11_init_161 hg161_77 (wsl_3 _ (List.mem_of_getElem? (i := 0) rfl)) (fun _ => rfl) (Or.inr rfl) ⟨nl rfl, nl rfl⟩ (fun G => ?_)
  obtain ⟨h164_78, hg164_78, hr⟩ := bnd hr
  refine c_putF 11 12 (t := 55) (ty := (.array (.object "FollowingRefs$Image"))) (ref := "FollowingRefs") hg164_78 rfl tyX11 tyX11_ok nmX11 rfl (by decide) rfl (by decide) inlX11 (wsl_3 _ (List.mem_of_getElem? (i := 1) rfl)) rfl rfl rfl rfl (by decide +kernel) (by decide) rfl (Or.inr (Or.inr (Or.inr ⟨by decide, Or.inr ⟨_, rfl⟩⟩))) dX11_init_164 ?_
  refine c_aload_n dX11_init_167 rfl 0 rfl (nl rfl) ?_
  refine c_iconst dX11_init_168 (by decide) ?_
  obtain ⟨h169_81, hg169_81, hr⟩ := bnd hr
  refine c_newa dX11_init_169 hg169_81 (wsl_3 _ (List.mem_of_getElem? (i := 2) rfl)) (Or.inl ⟨rfl, rfl⟩) ⟨nl rfl, nl rfl⟩ (fun G => ?_)
  obtain ⟨h171_82, hg171_82, hr⟩ := bnd hr
  refine c_putF 11 13 (t := 50) (ty := (.array .int)) (ref := "FollowingRefs") hg171_82 rfl tyX11 tyX11_ok nmX11 rfl (by decide) rfl (by decide) inlX11 (wsl_3 _ (List.mem_of_getElem? (i := 3) rfl)) rfl rfl rfl rfl (by decide +kernel) (by decide) rfl (Or.inr (Or.inr (Or.inr ⟨by decide, Or.inr ⟨_, rfl⟩⟩))) dX11_init_171 ?_
  refine c_aload_n dX11_init_174 rfl 0 rfl (nl rfl) ?_
  refine c_bipush dX11_init_175 (by decide) (by decide) ?_
  obtain ⟨h177_85, hg177_85, hr⟩ := bnd hr
  refine c_newa dX11_init_177 hg177_85 (wsl_3 _ (List.mem_of_getElem? (i := 4) rfl)) (Or.inr (Or.inr (Or.inl ⟨rfl, rfl⟩))) ⟨nl rfl, nl rfl⟩ (fun G => ?_)
  obtain ⟨h179_86, hg179_86, hr⟩ := bnd hr
  refine c_putF 11 14 (t := 52) (ty := (.array .byte)) (ref := "FollowingRefs") hg179_86 rfl tyX11 tyX11_ok nmX11 rfl (by decide) rfl (by decide) inlX11 (wsl_3 _ (List.mem_of_getElem? (i := 5) rfl)) rfl rfl rfl rfl (by decide +kernel) (by decide) rfl (Or.inr (Or.inr (Or.inr ⟨by decide, Or.inr ⟨_, rfl⟩⟩))) dX11_init_179 ?_
  refine c_iconst dX11_init_182 (by decide) ?_
  refine c_istore_n dX11_init_183 rfl (Or.inl rfl) (by decide) (lv' := [(1, (0, 0)), (0, (21, a0))]) rfl ?_
  refine c_iload_n dX11_init_184 rfl 0 rfl (Or.inl rfl) ?_
  refine c_aload_n dX11_init_185 rfl 1 rfl (nl rfl) ?_
  refine c_get 11 10 (o := a0) (w := (154, h179_86 a0 10)) (T := TX11) (ref := "FollowingRefs") rfl (by decide) rfl (by decide) inlX11 (wsl_2 _ (List.mem_of_getElem? (i := 23) rfl)) rfl dX11_init_186 rfl ?_
  obtain ⟨_z186_91, hz186_91, hr⟩ := bnd hr
  refine c_scast 0 (v := (154, h179_86 a0 10)) (w := (54, h179_86 a0 10)) rfl (cnn (t := 51)) (hTn (t := 51) (by decide) (nng_ok hz186_91)) (st' := [(54, h179_86 a0 10), (0, 0)]) rfl ?_
  refine c_alen (t := 54) (by decide) (by decide) dX11_init_189 ?_
  refine c_icmp_ge dX11_init_190 (tgt := 212) (by decide) (fun hc => ?_) (fun hc => ?_)
  · have hr := ifn hr hc
    cases hr
  have hr := ifp hr hc
  refine c_aload_n dX11_init_193 rfl 1 rfl (nl rfl) ?_
  refine c_get 11 10 (o := a0) (w := (154, h179_86 a0 10)) (T := TX11) (ref := "FollowingRefs") rfl (by decide) rfl (by decide) inlX11 (wsl_2 _ (List.mem_of_getElem? (i := 23) rfl)) rfl dX11_init_194 rfl ?_
  obtain ⟨_z194_95, hz194_95, hr⟩ := bnd hr
  refine c_scast 0 (v := (154, h179_86 a0 10)) (w := (54, h179_86 a0 10)) rfl (cnn (t := 51)) (hTn (t := 51) (by decide) (nng_ok hz194_95)) (st' := [(54, h179_86 a0 10)]) rfl ?_
  refine c_iload_n dX11_init_197 rfl 0 rfl (Or.inl rfl) ?_
  obtain ⟨h198_97, hg198_97, hr⟩ := bnd hr
  refine c_new 8 (N := 3) dX11_init_198 hg198_97 rfl (by decide) rfl tyX8 tyX8_ok inlX8 (wsl_1 _ (List.mem_of_getElem? (i := 21) rfl)) (wsl_1 _ (List.mem_of_getElem? (i := 22) rfl)) (wsl_1 _ (List.mem_of_getElem? (i := 23) rfl)) ⟨nl rfl, nl rfl⟩ (by decide +kernel) (fun G => ?_)
  refine c_dup dX11_init_201 (Nat.ne_of_beq_eq_false rfl) ?_
  obtain ⟨h202_99, hg202_99, hr⟩ := bnd hr
  refine c_callIN (host := "FollowingRefs") (t := 18) (o := n + 77) (as := []) (rest := [(18, n + 77), (0, 0), (54, h179_86 a0 10)]) (X := (none, h202_99)) (oX8_init hg202_99) (by decide) (by decide) gX8_init rfl (List.mem_of_getElem? (i := 12) rfl) rfl dX11_init_202 rfl (fun G => ?_)
  refine c_scast 0 (v := (18, n + 77)) (w := (118, n + 77)) rfl (cnw (t := 15)) (hTw (t := 15) (by decide)) (st' := [(118, n + 77), (0, 0), (54, h179_86 a0 10)]) rfl ?_
  obtain ⟨_z205_100, hz205_100, hr⟩ := bnd hr
  obtain ⟨h205_100, hg205_100, hr⟩ := bnd hr
  refine c_rast dX11_init_205 hg205_100 (nng_ok hz205_100) ?_
  refine c_iinc (k := 0) (v := 0) dX11_init_206 rfl (by decide) (lv' := [(1, (0, w32 (0 + 1))), (0, (21, a0))]) rfl ?_
  refine c_goto dX11_init_209 (tgt := 184) (by decide) ?_
  refine c_iload_n dX11_init_184 rfl 0 rfl (Or.inl rfl) ?_
  refine c_aload_n dX11_init_185 rfl 1 rfl (nl rfl) ?_
  refine c_get 11 10 (o := a0) (w := (154, h205_100 a0 10)) (T := TX11) (ref := "FollowingRefs") rfl (by decide) rfl (by decide) inlX11 (wsl_2 _ (List.mem_of_getElem? (i := 23) rfl)) rfl dX11_init_186 rfl ?_
  obtain ⟨_z186_105, hz186_105, hr⟩ := bnd hr
  refine c_scast 0 (v := (154, h205_100 a0 10)) (w := (54, h205_100 a0 10)) rfl (cnn (t := 51)) (hTn (t := 51) (by decide) (nng_ok hz186_105)) (st' := [(54, h205_100 a0 10), (0, w32 (0 + 1))]) rfl ?_
  refine c_alen (t := 54) (by decide) (by decide) dX11_init_189 ?_
  refine c_icmp_ge dX11_init_190 (tgt := 212) (by decide) (fun hc => ?_) (fun hc => ?_)
  · have hr := ifn hr hc
    cases hr
  have hr := ifp hr hc
  refine c_aload_n dX11_init_193 rfl 1 rfl (nl rfl) ?_
  refine c_get 11 10 (o := a0) (w := (154, h205_100 a0 10)) (T := TX11) (ref := "FollowingRefs") rfl (by decide) rfl (by decide) inlX11 (wsl_2 _ (List.mem_of_getElem? (i := 23) rfl)) rfl dX11_init_194 rfl ?_
  obtain ⟨_z194_109, hz194_109, hr⟩ := bnd hr
  refine c_scast 0 (v := (154, h205_100 a0 10)) (w := (54, h205_100 a0 10)) rfl (cnn (t := 51)) (hTn (t := 51) (by decide) (nng_ok hz194_109)) (st' := [(54, h205_100 a0 10)]) rfl ?_
  refine c_iload_n dX11_init_197 rfl 0 rfl (Or.inl rfl) ?_
  obtain ⟨h198_111, hg198_111, hr⟩ := bnd hr
  refine c_new 8 (N := 3) dX11_init_198 hg198_111 rfl (by decide) rfl tyX8 tyX8_ok inlX8 (wsl_1 _ (List.mem_of_getElem? (i := 21) rfl)) (wsl_1 _ (List.mem_of_getElem? (i := 22) rfl)) (wsl_1 _ (List.mem_of_getElem? (i := 23) rfl)) ⟨nl rfl, nl rfl⟩ (by decide +kernel) (fun G => ?_)
  refine c_dup dX11_init_201 (Nat.ne_of_beq_eq_false rfl) ?_
  obtain ⟨h202_113, hg202_113, hr⟩ := bnd hr
  refine c_callIN (host := "FollowingRefs") (t := 18) (o := n + 86) (as := []) (rest := [(18, n + 86), (0, w32 (0 + 1)), (54, h205_100 a0 10)]) (X := (none, h202_113)) (oX8_init hg202_113) (by decide) (by decide) gX8_init rfl (List.mem_of_getElem? (i := 12) rfl) rfl dX11_init_202 rfl (fun G => ?_)
  refine c_scast 0 (v := (18, n + 86)) (w := (118, n + 86)) rfl (cnw (t := 15)) (hTw (t := 15) (by decide)) (st' := [(118, n + 86), (0, w32 (0 + 1)), (54, h205_100 a0 10)]) rfl ?_
  obtain ⟨_z205_114, hz205_114, hr⟩ := bnd hr
  obtain ⟨h205_114, hg205_114, hr⟩ := bnd hr
  refine c_rast dX11_init_205 hg205_114 (nng_ok hz205_114) ?_
  refine c_iinc (k := 0) (v := w32 (0 + 1)) dX11_init_206 rfl (by decide) (lv' := [(1, (0, w32 (w32 (0 + 1) + 1))), (0, (21, a0))]) rfl ?_
  refine c_goto dX11_init_209 (tgt := 184) (by decide) ?_
  refine c_iload_n dX11_init_184 rfl 0 rfl (Or.inl rfl) ?_
  refine c_aload_n dX11_init_185 rfl 1 rfl (nl rfl) ?_
  refine c_get 11 10 (o := a0) (w := (154, h205_114 a0 10)) (T := TX11) (ref := "FollowingRefs") rfl (by decide) rfl (by decide) inlX11 (wsl_2 _ (List.mem_of_getElem? (i := 23) rfl)) rfl dX11_init_186 rfl ?_
  obtain ⟨_z186_119, hz186_119, hr⟩ := bnd hr
  refine c_scast 0 (v := (154, h205_114 a0 10)) (w := (54, h205_114 a0 10)) rfl (cnn (t := 51)) (hTn (t := 51) (by decide) (nng_ok hz186_119)) (st' := [(54, h205_114 a0 10), (0, w32 (w32 (0 + 1) + 1))]) rfl ?_
  refine c_alen (t := 54) (by decide) (by decide) dX11_init_189 ?_
  refine c_icmp_ge dX11_init_190 (tgt := 212) (by decide) (fun hc => ?_) (fun hc => ?_)
  · have hr := ifn hr hc
    cases hr
  have hr := ifp hr hc
  refine c_aload_n dX11_init_193 rfl 1 rfl (nl rfl) ?_
  refine c_get 11 10 (o := a0) (w := (154, h205_114 a0 10)) (T := TX11) (ref := "FollowingRefs") rfl (by decide) rfl (by decide) inlX11 (wsl_2 _ (List.mem_of_getElem? (i := 23) rfl)) rfl dX11_init_194 rfl ?_
  obtain ⟨_z194_123, hz194_123, hr⟩ := bnd hr
  refine c_scast 0 (v := (154, h205_114 a0 10)) (w := (54, h205_114 a0 10)) rfl (cnn (t := 51)) (hTn (t := 51) (by decide) (nng_ok hz194_123)) (st' := [(54, h205_114 a0 10)]) rfl ?_
  refine c_iload_n dX11_init_197 rfl 0 rfl (Or.inl rfl) ?_
  obtain ⟨h198_125, hg198_125, hr⟩ := bnd hr
  refine c_new 8 (N := 3) dX11_init_198 hg198_125 rfl (by decide) rfl tyX8 tyX8_ok inlX8 (wsl_1 _ (List.mem_of_getElem? (i := 21) rfl)) (wsl_1 _ (List.mem_of_getElem? (i := 22) rfl)) (wsl_1 _ (List.mem_of_getElem? (i := 23) rfl)) ⟨nl rfl, nl rfl⟩ (by decide +kernel) (fun G => ?_)
  refine c_dup dX11_init_201 (Nat.ne_of_beq_eq_false rfl) ?_
  obtain ⟨h202_127, hg202_127, hr⟩ := bnd hr
  refine c_callIN (host := "FollowingRefs") (t := 18) (o := n + 95) (as := []) (rest := [(18, n + 95), (0, w32 (w32 (0 + 1) + 1)), (54, h205_114 a0 10)]) (X := (none, h202_127)) (oX8_init hg202_127) (by decide) (by decide) gX8_init rfl (List.mem_of_getElem? (i := 12) rfl) rfl dX11_init_202 rfl (fun G => ?_)
  refine c_scast 0 (v := (18, n + 95)) (w := (118, n + 95)) rfl (cnw (t := 15)) (hTw (t := 15) (by decide)) (st' := [(118, n + 95), (0, w32 (w32 (0 + 1) + 1)), (54, h205_114 a0 10)]) rfl ?_
  obtain ⟨_z205_128, hz205_128, hr⟩ := bnd hr
  obtain ⟨h205_128, hg205_128, hr⟩ := bnd hr
  refine c_rast dX11_init_205 hg205_128 (nng_ok hz205_128) ?_
  refine c_iinc (k := 0) (v := w32 (w32 (0 + 1) + 1)) dX11_init_206 rfl (by decide) (lv' := [(1, (0, w32 (w32 (w32 (0 + 1) + 1) + 1))), (0, (21, a0))]) rfl ?_
  refine c_goto dX11_init_209 (tgt := 184) (by decide) ?_
  refine c_iload_n dX11_init_184 rfl 0 rfl (Or.inl rfl) ?_
  refine c_aload_n dX11_init_185 rfl 1 rfl (nl rfl) ?_
  refine c_get 11 10 (o := a0) (w := (154, h205_128 a0 10)) (T := TX11) (ref := "FollowingRefs") rfl (by decide) rfl (by decide) inlX11 (wsl_2 _ (List.mem_of_getElem? (i := 23) rfl)) rfl dX11_init_186 rfl ?_
  obtain ⟨_z186_133, hz186_133, hr⟩ := bnd hr
  refine c_scast 0 (v := (154, h205_128 a0 10)) (w := (54, h205_128 a0 10)) rfl (cnn (t := 51)) (hTn (t := 51) (by decide) (nng_ok hz186_133)) (st' := [(54, h205_128 a0 10), (0, w32 (w32 (w32 (0 + 1) + 1) + 1))]) rfl ?_
  refine c_alen (t := 54) (by decide) (by decide) dX11_init_189 ?_
  refine c_icmp_ge dX11_init_190 (tgt := 212) (by decide) (fun hc => ?_) (fun hc => ?_)
  · have hr := ifn hr hc
    cases hr
  have hr := ifp hr hc
  refine c_aload_n dX11_init_193 rfl 1 rfl (nl rfl) ?_
  refine c_get 11 10 (o := a0) (w := (154, h205_128 a0 10)) (T := TX11) (ref := "FollowingRefs") rfl (by decide) rfl (by decide) inlX11 (wsl_2 _ (List.mem_of_getElem? (i := 23) rfl)) rfl dX11_init_194 rfl ?_
  obtain ⟨_z194_137, hz194_137, hr⟩ := bnd hr
  refine c_scast 0 (v := (154, h205_128 a0 10)) (w := (54, h205_128 a0 10)) rfl (cnn (t := 51)) (hTn (t := 51) (by decide) (nng_ok hz194_137)) (st' := [(54, h205_128 a0 10)]) rfl ?_
  refine c_iload_n dX11_init_197 rfl 0 rfl (Or.inl rfl) ?_
  obtain ⟨h198_139, hg198_139, hr⟩ := bnd hr
  refine c_new 8 (N := 3) dX11_init_198 hg198_139 rfl (by decide) rfl tyX8 tyX8_ok inlX8 (wsl_1 _ (List.mem_of_getElem? (i := 21) rfl)) (wsl_1 _ (List.mem_of_getElem? (i := 22) rfl)) (wsl_1 _ (List.mem_of_getElem? (i := 23) rfl)) ⟨nl rfl, nl rfl⟩ (by decide +kernel) (fun G => ?_)
  refine c_dup dX11_init_201 (Nat.ne_of_beq_eq_false rfl) ?_
  obtain ⟨h202_141, hg202_141, hr⟩ := bnd hr
  refine c_callIN (host := "FollowingRefs") (t := 18) (o := n + 104) (as := []) (rest := [(18, n + 104), (0, w32 (w32 (w32 (0 + 1) + 1) + 1)), (54, h205_128 a0 10)]) (X := (none, h202_141)) (oX8_init hg202_141) (by decide) (by decide) gX8_init rfl (List.mem_of_getElem? (i := 12) rfl) rfl dX11_init_202 rfl (fun G => ?_)
  refine c_scast 0 (v := (18, n + 104)) (w := (118, n + 104)) rfl (cnw (t := 15)) (hTw (t := 15) (by decide)) (st' := [(118, n + 104), (0, w32 (w32 (w32 (0 + 1) + 1) + 1)), (54, h205_128 a0 10)]) rfl ?_
  obtain ⟨_z205_142, hz205_142, hr⟩ := bnd hr
  obtain ⟨h205_142, hg205_142, hr⟩ := bnd hr
  refine c_rast dX11_init_205 hg205_142 (nng_ok hz205_142) ?_
  refine c_iinc (k := 0) (v := w32 (w32 (w32 (0 + 1) + 1) + 1)) dX11_init_206 rfl (by decide) (lv' := [(1, (0, w32 (w32 (w32 (w32 (0 + 1) + 1) + 1) + 1))), (0, (21, a0))]) rfl ?_
  refine c_goto dX11_init_209 (tgt := 184) (by decide) ?_
  refine c_iload_n dX11_init_184 rfl 0 rfl (Or.inl rfl) ?_
  refine c_aload_n dX11_init_185 rfl 1 rfl (nl rfl) ?_
  refine c_get 11 10 (o := a0) (w := (154, h205_142 a0 10)) (T := TX11) (ref := "FollowingRefs") rfl (by decide) rfl (by decide) inlX11 (wsl_2 _ (List.mem_of_getElem? (i := 23) rfl)) rfl dX11_init_186 rfl ?_
  obtain ⟨_z186_147, hz186_147, hr⟩ := bnd hr
  refine c_scast 0 (v := (154, h205_142 a0 10)) (w := (54, h205_142 a0 10)) rfl (cnn (t := 51)) (hTn (t := 51) (by decide) (nng_ok hz186_147)) (st' := [(54, h205_142 a0 10), (0, w32 (w32 (w32 (w32 (0 + 1) + 1) + 1) + 1))]) rfl ?_
  refine c_alen (t := 54) (by decide) (by decide) dX11_init_189 ?_
  refine c_icmp_ge dX11_init_190 (tgt := 212) (by decide) (fun hc => ?_) (fun hc => ?_)
  · have hr := ifn hr hc
    cases hr
  have hr := ifp hr hc
  refine c_aload_n dX11_init_193 rfl 1 rfl (nl rfl) ?_
  refine c_get 11 10 (o := a0) (w := (154, h205_142 a0 10)) (T := TX11) (ref := "FollowingRefs") rfl (by decide) rfl (by decide) inlX11 (wsl_2 _ (List.mem_of_getElem? (i := 23) rfl)) rfl dX11_init_194 rfl ?_
  obtain ⟨_z194_151, hz194_151, hr⟩ := bnd hr
  refine c_scast 0 (v := (154, h205_142 a0 10)) (w := (54, h205_142 a0 10)) rfl (cnn (t := 51)) (hTn (t := 51) (by decide) (nng_ok hz194_151)) (st' := [(54, h205_142 a0 10)]) rfl ?_
  refine c_iload_n dX11_init_197 rfl 0 rfl (Or.inl rfl) ?_
  obtain ⟨h198_153, hg198_153, hr⟩ := bnd hr
  refine c_new 8 (N := 3) dX11_init_198 hg198_153 rfl (by decide) rfl tyX8 tyX8_ok inlX8 (wsl_1 _ (List.mem_of_getElem? (i := 21) rfl)) (wsl_1 _ (List.mem_of_getElem? (i := 22) rfl)) (wsl_1 _ (List.mem_of_getElem? (i := 23) rfl)) ⟨nl rfl, nl rfl⟩ (by decide +kernel) (fun G => ?_)
  refine c_dup dX11_init_201 (Nat.ne_of_beq_eq_false rfl) ?_
  obtain ⟨h202_155, hg202_155, hr⟩ := bnd hr
  refine c_callIN (host := "FollowingRefs") (t := 18) (o := n + 113) (as := []) (rest := [(18, n + 113), (0, w32 (w32 (w32 (w32 (0 + 1) + 1) + 1) + 1)), (54, h205_142 a0 10)]) (X := (none, h202_155)) (oX8_init hg202_155) (by decide) (by decide) gX8_init rfl (List.mem_of_getElem? (i := 12) rfl) rfl dX11_init_202 rfl (fun G => ?_)
  refine c_scast 0 (v := (18, n + 113)) (w := (118, n + 113)) rfl (cnw (t := 15)) (hTw (t := 15) (by decide)) (st' := [(118, n + 113), (0, w32 (w32 (w32 (w32 (0 + 1) + 1) + 1) + 1)), (54, h205_142 a0 10)]) rfl ?_
  obtain ⟨_z205_156, hz205_156, hr⟩ := bnd hr
  obtain ⟨h205_156, hg205_156, hr⟩ := bnd hr
  refine c_rast dX11_init_205 hg205_156 (nng_ok hz205_156) ?_
  refine c_iinc (k := 0) (v := w32 (w32 (w32 (w32 (0 + 1) + 1) + 1) + 1)) dX11_init_206 rfl (by decide) (lv' := [(1, (0, w32 (w32 (w32 (w32 (w32 (0 + 1) + 1) + 1) + 1) + 1))), (0, (21, a0))]) rfl ?_
  refine c_goto dX11_init_209 (tgt := 184) (by decide) ?_
  refine c_iload_n dX11_init_184 rfl 0 rfl (Or.inl rfl) ?_
  refine c_aload_n dX11_init_185 rfl 1 rfl (nl rfl) ?_
  refine c_get 11 10 (o := a0) (w := (154, h205_156 a0 10)) (T := TX11) (ref := "FollowingRefs") rfl (by decide) rfl (by decide) inlX11 (wsl_2 _ (List.mem_of_getElem? (i := 23) rfl)) rfl dX11_init_186 rfl ?_
  obtain ⟨_z186_161, hz186_161, hr⟩ := bnd hr
  refine c_scast 0 (v := (154, h205_156 a0 10)) (w := (54, h205_156 a0 10)) rfl (cnn (t := 51)) (hTn (t := 51) (by decide) (nng_ok hz186_161)) (st' := [(54, h205_156 a0 10), (0, w32 (w32 (w32 (w32 (w32 (0 + 1) + 1) + 1) + 1) + 1))]) rfl ?_
  refine c_alen (t := 54) (by decide) (by decide) dX11_init_189 ?_
  refine c_icmp_ge dX11_init_190 (tgt := 212) (by decide) (fun hc => ?_) (fun hc => ?_)
  · have hr := ifn hr hc
    cases hr
  have hr := ifp hr hc
  refine c_aload_n dX11_init_193 rfl 1 rfl (nl rfl) ?_
  refine c_get 11 10 (o := a0) (w := (154, h205_156 a0 10)) (T := TX11) (ref := "FollowingRefs") rfl (by decide) rfl (by decide) inlX11 (wsl_2 _ (List.mem_of_getElem? (i := 23) rfl)) rfl dX11_init_194 rfl ?_
  obtain ⟨_z194_165, hz194_165, hr⟩ := bnd hr
  refine c_scast 0 (v := (154, h205_156 a0 10)) (w := (54, h205_156 a0 10)) rfl (cnn (t := 51)) (hTn (t := 51) (by decide) (nng_ok hz194_165)) (st' := [(54, h205_156 a0 10)]) rfl ?_
  refine c_iload_n dX11_init_197 rfl 0 rfl (Or.inl rfl) ?_
  obtain ⟨h198_167, hg198_167, hr⟩ := bnd hr
  refine c_new 8 (N := 3) dX11_init_198 hg198_167 rfl (by decide) rfl tyX8 tyX8_ok inlX8 (wsl_1 _ (List.mem_of_getElem? (i := 21) rfl)) (wsl_1 _ (List.mem_of_getElem? (i := 22) rfl)) (wsl_1 _ (List.mem_of_getElem? (i := 23) rfl)) ⟨nl rfl, nl rfl⟩ (by decide +kernel) (fun G => ?_)
  refine c_dup dX11_init_201 (Nat.ne_of_beq_eq_false rfl) ?_
  obtain ⟨h202_169, hg202_169, hr⟩ := bnd hr
  refine c_callIN (host := "FollowingRefs") (t := 18) (o := n + 122) (as := []) (rest := [(18, n + 122), (0, w32 (w32 (w32 (w32 (w32 (0 + 1) + 1) + 1) + 1) + 1)), (54, h205_156 a0 10)]) (X := (none, h202_169)) (oX8_init hg202_169) (by decide) (by decide) gX8_init rfl (List.mem_of_getElem? (i := 12) rfl) rfl dX11_init_202 rfl (fun G => ?_)
  refine c_scast 0 (v := (18, n + 122)) (w := (118, n + 122)) rfl (cnw (t := 15)) (hTw (t := 15) (by decide)) (st' := [(118, n + 122), (0, w32 (w32 (w32 (w32 (w32 (0 + 1) + 1) + 1) + 1) + 1)), (54, h205_156 a0 10)]) rfl ?_
  obtain ⟨_z205_170, hz205_170, hr⟩ := bnd hr
  obtain ⟨h205_170, hg205_170, hr⟩ := bnd hr
  refine c_rast dX11_init_205 hg205_170 (nng_ok hz205_170) ?_
  refine c_iinc (k := 0) (v := w32 (w32 (w32 (w32 (w32 (0 + 1) + 1) + 1) + 1) + 1)) dX11_init_206 rfl (by decide) (lv' := [(1, (0, w32 (w32 (w32 (w32 (w32 (w32 (0 + 1) + 1) + 1) + 1) + 1) + 1))), (0, (21, a0))]) rfl ?_
  refine c_goto dX11_init_209 (tgt := 184) (by decide) ?_
  refine c_iload_n dX11_init_184 rfl 0 rfl (Or.inl rfl) ?_
  refine c_aload_n dX11_init_185 rfl 1 rfl (nl rfl) ?_
  refine c_get 11 10 (o := a0) (w := (154, h205_170 a0 10)) (T := TX11) (ref := "FollowingRefs") rfl (by decide) rfl (by decide) inlX11 (wsl_2 _ (List.mem_of_getElem? (i := 23) rfl)) rfl dX11_init_186 rfl ?_
  obtain ⟨_z186_175, hz186_175, hr⟩ := bnd hr
  refine c_scast 0 (v := (154, h205_170 a0 10)) (w := (54, h205_170 a0 10)) rfl (cnn (t := 51)) (hTn (t := 51) (by decide) (nng_ok hz186_175)) (st' := [(54, h205_170 a0 10), (0, w32 (w32 (w32 (w32 (w32 (w32 (0 + 1) + 1) + 1) + 1) + 1) + 1))]) rfl ?_
  refine c_alen (t := 54) (by decide) (by decide) dX11_init_189 ?_
  refine c_icmp_ge dX11_init_190 (tgt := 212) (by decide) (fun hc => ?_) (fun hc => ?_)
  · have hr := ifn hr hc
    cases hr
  have hr := ifp hr hc
  refine c_aload_n dX11_init_193 rfl 1 rfl (nl rfl) ?_
  refine c_get 11 10 (o := a0) (w := (154, h205_170 a0 10)) (T := TX11) (ref := "FollowingRefs") rfl (by decide) rfl (by decide) inlX11 (wsl_2 _ (List.mem_of_getElem? (i := 23) rfl)) rfl dX11_init_194 rfl ?_
  obtain ⟨_z194_179, hz194_179, hr⟩ := bnd hr
  refine c_scast 0 (v := (154, h205_170 a0 10)) (w := (54, h205_170 a0 10)) rfl (cnn (t := 51)) (hTn (t := 51) (by decide) (nng_ok hz194_179)) (st' := [(54, h205_170 a0 10)]) rfl ?_
  refine c_iload_n dX11_init_197 rfl 0 rfl (Or.inl rfl) ?_
  obtain ⟨h198_181, hg198_181, hr⟩ := bnd hr
  refine c_new 8 (N := 3) dX11_init_198 hg198_181 rfl (by decide) rfl tyX8 tyX8_ok inlX8 (wsl_1 _ (List.mem_of_getElem? (i := 21) rfl)) (wsl_1 _ (List.mem_of_getElem? (i := 22) rfl)) (wsl_1 _ (List.mem_of_getElem? (i := 23) rfl)) ⟨nl rfl, nl rfl⟩ (by decide +kernel) (fun G => ?_)
  refine c_dup dX11_init_201 (Nat.ne_of_beq_eq_false rfl) ?_
  obtain ⟨h202_183, hg202_183, hr⟩ := bnd hr
  refine c_callIN (host := "FollowingRefs") (t := 18) (o := n + 131) (as := []) (rest := [(18, n + 131), (0, w32 (w32 (w32 (w32 (w32 (w32 (0 + 1) + 1) + 1) + 1) + 1) + 1)), (54, h205_170 a0 10)]) (X := (none, h202_183)) (oX8_init hg202_183) (by decide) (by decide) gX8_init rfl (List.mem_of_getElem? (i := 12) rfl) rfl dX11_init_202 rfl (fun G => ?_)
  refine c_scast 0 (v := (18, n + 131)) (w := (118, n + 131)) rfl (cnw (t := 15)) (hTw (t := 15) (by decide)) (st' := [(118, n + 131), (0, w32 (w32 (w32 (w32 (w32 (w32 (0 + 1) + 1) + 1) + 1) + 1) + 1)), (54, h205_170 a0 10)]) rfl ?_
  obtain ⟨_z205_184, hz205_184, hr⟩ := bnd hr
  obtain ⟨h205_184, hg205_184, hr⟩ := bnd hr
  refine c_rast dX11_init_205 hg205_184 (nng_ok hz205_184) ?_
  refine c_iinc (k := 0) (v := w32 (w32 (w32 (w32 (w32 (w32 (0 + 1) + 1) + 1) + 1) + 1) + 1)) dX11_init_206 rfl (by decide) (lv' := [(1, (0, w32 (w32 (w32 (w32 (w32 (w32 (w32 (0 + 1) + 1) + 1) + 1) + 1) + 1) + 1))), (0, (21, a0))]) rfl ?_
  refine c_goto dX11_init_209 (tgt := 184) (by decide) ?_
  refine c_iload_n dX11_init_184 rfl 0 rfl (Or.inl rfl) ?_
  refine c_aload_n dX11_init_185 rfl 1 rfl (nl rfl) ?_
  refine c_get 11 10 (o := a0) (w := (154, h205_184 a0 10)) (T := TX11) (ref := "FollowingRefs") rfl (by decide) rfl (by decide) inlX11 (wsl_2 _ (List.mem_of_getElem? (i := 23) rfl)) rfl dX11_init_186 rfl ?_
  obtain ⟨_z186_189, hz186_189, hr⟩ := bnd hr
  refine c_scast 0 (v := (154, h205_184 a0 10)) (w := (54, h205_184 a0 10)) rfl (cnn (t := 51)) (hTn (t := 51) (by decide) (nng_ok hz186_189)) (st' := [(54, h205_184 a0 10), (0, w32 (w32 (w32 (w32 (w32 (w32 (w32 (0 + 1) + 1) + 1) + 1) + 1) + 1) + 1))]) rfl ?_
  refine c_alen (t := 54) (by decide) (by decide) dX11_init_189 ?_
  refine c_icmp_ge dX11_init_190 (tgt := 212) (by decide) (fun hc => ?_) (fun hc => ?_)
  · have hr := ifn hr hc
    cases hr
  have hr := ifp hr hc
  refine c_aload_n dX11_init_193 rfl 1 rfl (nl rfl) ?_
  refine c_get 11 10 (o := a0) (w := (154, h205_184 a0 10)) (T := TX11) (ref := "FollowingRefs") rfl (by decide) rfl (by decide) inlX11 (wsl_2 _ (List.mem_of_getElem? (i := 23) rfl)) rfl dX11_init_194 rfl ?_
  obtain ⟨_z194_193, hz194_193, hr⟩ := bnd hr
  refine c_scast 0 (v := (154, h205_184 a0 10)) (w := (54, h205_184 a0 10)) rfl (cnn (t := 51)) (hTn (t := 51) (by decide) (nng_ok hz194_193)) (st' := [(54, h205_184 a0 10)]) rfl ?_
  refine c_iload_n dX11_init_197 rfl 0 rfl (Or.inl rfl) ?_
  obtain ⟨h198_195, hg198_195, hr⟩ := bnd hr
  refine c_new 8 (N := 3) dX11_init_198 hg198_195 rfl (by decide) rfl tyX8 tyX8_ok inlX8 (wsl_1 _ (List.mem_of_getElem? (i := 21) rfl)) (wsl_1 _ (List.mem_of_getElem? (i := 22) rfl)) (wsl_1 _ (List.mem_of_getElem? (i := 23) rfl)) ⟨nl rfl, nl rfl⟩ (by decide +kernel) (fun G => ?_)
  refine c_dup dX11_init_201 (Nat.ne_of_beq_eq_false rfl) ?_
  obtain ⟨h202_197, hg202_197, hr⟩ := bnd hr
  refine c_callIN (host := "FollowingRefs") (t := 18) (o := n + 140) (as := []) (rest := [(18, n + 140), (0, w32 (w32 (w32 (w32 (w32 (w32 (w32 (0 + 1) + 1) + 1) + 1) + 1) + 1) + 1)), (54, h205_184 a0 10)]) (X := (none, h202_197)) (oX8_init hg202_197) (by decide) (by decide) gX8_init rfl (List.mem_of_getElem? (i := 12) rfl) rfl dX11_init_202 rfl (fun G => ?_)
  refine c_scast 0 (v := (18, n + 140)) (w := (118, n + 140)) rfl (cnw (t := 15)) (hTw (t := 15) (by decide)) (st' := [(118, n + 140), (0, w32 (w32 (w32 (w32 (w32 (w32 (w32 (0 + 1) + 1) + 1) + 1) + 1) + 1) + 1)), (54, h205_184 a0 10)]) rfl ?_
  obtain ⟨_z205_198, hz205_198, hr⟩ := bnd hr
  obtain ⟨h205_198, hg205_198, hr⟩ := bnd hr
  refine c_rast dX11_init_205 hg205_198 (nng_ok hz205_198) ?_
  refine c_iinc (k := 0) (v := w32 (w32 (w32 (w32 (w32 (w32 (w32 (0 + 1) + 1) + 1) + 1) + 1) + 1) + 1)) dX11_init_206 rfl (by decide) (lv' := [(1, (0, w32 (w32 (w32 (w32 (w32 (w32 (w32 (w32 (0 + 1) + 1) + 1) + 1) + 1) + 1) + 1) + 1))), (0, (21, a0))]) rfl ?_
  refine c_goto dX11_init_209 (tgt := 184) (by decide) ?_
  refine c_iload_n dX11_init_184 rfl 0 rfl (Or.inl rfl) ?_
  refine c_aload_n dX11_init_185 rfl 1 rfl (nl rfl) ?_
  refine c_get 11 10 (o := a0) (w := (154, h205_198 a0 10)) (T := TX11) (ref := "FollowingRefs") rfl (by decide) rfl (by decide) inlX11 (wsl_2 _ (List.mem_of_getElem? (i := 23) rfl)) rfl dX11_init_186 rfl ?_
  obtain ⟨_z186_203, hz186_203, hr⟩ := bnd hr
  refine c_scast 0 (v := (154, h205_198 a0 10)) (w := (54, h205_198 a0 10)) rfl (cnn (t := 51)) (hTn (t := 51) (by decide) (nng_ok hz186_203)) (st' := [(54, h205_198 a0 10), (0, w32 (w32 (w32 (w32 (w32 (w32 (w32 (w32 (0 + 1) + 1) + 1) + 1) + 1) + 1) + 1) + 1))]) rfl ?_
  refine c_alen (t := 54) (by decide) (by decide) dX11_init_189 ?_
  refine c_icmp_ge dX11_init_190 (tgt := 212) (by decide) (fun hc => ?_) (fun hc => ?_)
  rotate_left
  · have hr := ifp hr hc
    cases hr
  have hr := ifn hr hc
  refine c_iconst dX11_init_212 (by decide) ?_
  refine c_istore_n dX11_init_213 rfl (Or.inl rfl) (by decide) (lv' := [(1, (0, 0)), (0, (21, a0))]) rfl ?_
  refine c_iload_n dX11_init_214 rfl 0 rfl (Or.inl rfl) ?_
  refine c_aload_n dX11_init_215 rfl 1 rfl (nl rfl) ?_
  refine c_get 11 12 (o := a0) (w := (155, h205_198 a0 12)) (T := TX11) (ref := "FollowingRefs") rfl (by decide) rfl (by decide) inlX11 (wsl_3 _ (List.mem_of_getElem? (i := 1) rfl)) rfl dX11_init_216 rfl ?_
  obtain ⟨_z216_210, hz216_210, hr⟩ := bnd hr
  refine c_scast 0 (v := (155, h205_198 a0 12)) (w := (55, h205_198 a0 12)) rfl (cnn (t := 52)) (hTn (t := 52) (by decide) (nng_ok hz216_210)) (st' := [(55, h205_198 a0 12), (0, 0)]) rfl ?_
  refine c_alen (t := 55) (by decide) (by decide) dX11_init_219 ?_
  refine c_icmp_ge dX11_init_220 (tgt := 242) (by decide) (fun hc => ?_) (fun hc => ?_)
  · have hr := ifn hr hc
    cases hr
  have hr := ifp hr hc
  refine c_aload_n dX11_init_223 rfl 1 rfl (nl rfl) ?_
  refine c_get 11 12 (o := a0) (w := (155, h205_198 a0 12)) (T := TX11) (ref := "FollowingRefs") rfl (by decide) rfl (by decide) inlX11 (wsl_3 _ (List.mem_of_getElem? (i := 1) rfl)) rfl dX11_init_224 rfl ?_
  obtain ⟨_z224_214, hz224_214, hr⟩ := bnd hr
  refine c_scast 0 (v := (155, h205_198 a0 12)) (w := (55, h205_198 a0 12)) rfl (cnn (t := 52)) (hTn (t := 52) (by decide) (nng_ok hz224_214)) (st' := [(55, h205_198 a0 12)]) rfl ?_
  refine c_iload_n dX11_init_227 rfl 0 rfl (Or.inl rfl) ?_
  obtain ⟨h228_216, hg228_216, hr⟩ := bnd hr
  refine c_new 0 (N := 4) dX11_init_228 hg228_216 rfl (by decide) rfl tyX0 tyX0_ok inlX0 (wsl_3 _ (List.mem_of_getElem? (i := 0) rfl)) (wsl_3 _ (List.mem_of_getElem? (i := 6) rfl)) (wsl_3 _ (List.mem_of_getElem? (i := 7) rfl)) ⟨nl rfl, nl rfl⟩ (by decide +kernel) (fun G => ?_)
  refine c_dup dX11_init_231 (Nat.ne_of_beq_eq_false rfl) ?_
  obtain ⟨h232_218, hg232_218, hr⟩ := bnd hr
  refine c_callIN (host := "FollowingRefs") (t := 10) (o := n + 149) (as := []) (rest := [(10, n + 149), (0, 0), (55, h205_198 a0 12)]) (X := (none, h232_218)) (oX0_init hg232_218) (by decide) (by decide) gX0_init rfl (List.mem_of_getElem? (i := 14) rfl) rfl dX11_init_232 rfl (fun G => ?_)
  refine c_scast 0 (v := (10, n + 149)) (w := (110, n + 149)) rfl (cnw (t := 7)) (hTw (t := 7) (by decide)) (st' := [(110, n + 149), (0, 0), (55, h205_198 a0 12)]) rfl ?_
  obtain ⟨_z235_219, hz235_219, hr⟩ := bnd hr
  obtain ⟨h235_219, hg235_219, hr⟩ := bnd hr
  refine c_mast dX11_init_235 hg235_219 (nng_ok hz235_219) ?_
  refine c_iinc (k := 0) (v := 0) dX11_init_236 rfl (by decide) (lv' := [(1, (0, w32 (0 + 1))), (0, (21, a0))]) rfl ?_
  refine c_goto dX11_init_239 (tgt := 214) (by decide) ?_
  refine c_iload_n dX11_init_214 rfl 0 rfl (Or.inl rfl) ?_
  refine c_aload_n dX11_init_215 rfl 1 rfl (nl rfl) ?_
  refine c_get 11 12 (o := a0) (w := (155, h235_219 a0 12)) (T := TX11) (ref := "FollowingRefs") rfl (by decide) rfl (by decide) inlX11 (wsl_3 _ (List.mem_of_getElem? (i := 1) rfl)) rfl dX11_init_216 rfl ?_
  obtain ⟨_z216_224, hz216_224, hr⟩ := bnd hr
  refine c_scast 0 (v := (155, h235_219 a0 12)) (w := (55, h235_219 a0 12)) rfl (cnn (t := 52)) (hTn (t := 52) (by decide) (nng_ok hz216_224)) (st' := [(55, h235_219 a0 12), (0, w32 (0 + 1))]) rfl ?_
  refine c_alen (t := 55) (by decide) (by decide) dX11_init_219 ?_
  refine c_icmp_ge dX11_init_220 (tgt := 242) (by decide) (fun hc => ?_) (fun hc => ?_)
  · have hr := ifn hr hc
    cases hr
  have hr := ifp hr hc
  refine c_aload_n dX11_init_223 rfl 1 rfl (nl rfl) ?_
  refine c_get 11 12 (o := a0) (w := (155, h235_219 a0 12)) (T := TX11) (ref := "FollowingRefs") rfl (by decide) rfl (by decide) inlX11 (wsl_3 _ (List.mem_of_getElem? (i := 1) rfl)) rfl dX11_init_224 rfl ?_
  obtain ⟨_z224_228, hz224_228, hr⟩ := bnd hr
  refine c_scast 0 (v := (155, h235_219 a0 12)) (w := (55, h235_219 a0 12)) rfl (cnn (t := 52)) (hTn (t := 52) (by decide) (nng_ok hz224_228)) (st' := [(55, h235_219 a0 12)]) rfl ?_
  refine c_iload_n dX11_init_227 rfl 0 rfl (Or.inl rfl) ?_
  obtain ⟨h228_230, hg228_230, hr⟩ := bnd hr
  refine c_new 0 (N := 4) dX11_init_228 hg228_230 rfl (by decide) rfl tyX0 tyX0_ok inlX0 (wsl_3 _ (List.mem_of_getElem? (i := 0) rfl)) (wsl_3 _ (List.mem_of_getElem? (i := 6) rfl)) (wsl_3 _ (List.mem_of_getElem? (i := 7) rfl)) ⟨nl rfl, nl rfl⟩ (by decide +kernel) (fun G => ?_)
  refine c_dup dX11_init_231 (Nat.ne_of_beq_eq_false rfl) ?_
  obtain ⟨h232_232, hg232_232, hr⟩ := bnd hr
  refine c_callIN (host := "FollowingRefs") (t := 10) (o := n + 170) (as := []) (rest := [(10, n + 170), (0, w32 (0 + 1)), (55, h235_219 a0 12)]) (X := (none, h232_232)) (oX0_init hg232_232) (by decide) (by decide) gX0_init rfl (List.mem_of_getElem? (i := 14) rfl) rfl dX11_init_232 rfl (fun G => ?_)
  refine c_scast 0 (v := (10, n + 170)) (w := (110, n + 170)) rfl (cnw (t := 7)) (hTw (t := 7) (by decide)) (st' := [(110, n + 170), (0, w32 (0 + 1)), (55, h235_219 a0 12)]) rfl ?_
  obtain ⟨_z235_233, hz235_233, hr⟩ := bnd hr
  obtain ⟨h235_233, hg235_233, hr⟩ := bnd hr
  refine c_mast dX11_init_235 hg235_233 (nng_ok hz235_233) ?_
  refine c_iinc (k := 0) (v := w32 (0 + 1)) dX11_init_236 rfl (by decide) (lv' := [(1, (0, w32 (w32 (0 + 1) + 1))), (0, (21, a0))]) rfl ?_
  refine c_goto dX11_init_239 (tgt := 214) (by decide) ?_
  refine c_iload_n dX11_init_214 rfl 0 rfl (Or.inl rfl) ?_
  refine c_aload_n dX11_init_215 rfl 1 rfl (nl rfl) ?_
  refine c_get 11 12 (o := a0) (w := (155, h235_233 a0 12)) (T := TX11) (ref := "FollowingRefs") rfl (by decide) rfl (by decide) inlX11 (wsl_3 _ (List.mem_of_getElem? (i := 1) rfl)) rfl dX11_init_216 rfl ?_
  obtain ⟨_z216_238, hz216_238, hr⟩ := bnd hr
  refine c_scast 0 (v := (155, h235_233 a0 12)) (w := (55, h235_233 a0 12)) rfl (cnn (t := 52)) (hTn (t := 52) (by decide) (nng_ok hz216_238)) (st' := [(55, h235_233 a0 12), (0, w32 (w32 (0 + 1) + 1))]) rfl ?_
  refine c_alen (t := 55) (by decide) (by decide) dX11_init_219 ?_
  refine c_icmp_ge dX11_init_220 (tgt := 242) (by decide) (fun hc => ?_) (fun hc => ?_)
  rotate_left
  · have hr := ifp hr hc
    cases hr
  have hr := ifn hr hc
  refine c_aload_n dX11_init_242 rfl 1 rfl (nl rfl) ?_
  refine c_get 11 13 (o := a0) (w := (150, h235_233 a0 13)) (T := TX11) (ref := "FollowingRefs") rfl (by decide) rfl (by decide) inlX11 (wsl_3 _ (List.mem_of_getElem? (i := 3) rfl)) rfl dX11_init_243 rfl ?_
  obtain ⟨_z243_242, hz243_242, hr⟩ := bnd hr
  refine c_scast 0 (v := (150, h235_233 a0 13)) (w := (50, h235_233 a0 13)) rfl (cnn (t := 47)) (hTn (t := 47) (by decide) (nng_ok hz243_242)) (st' := [(50, h235_233 a0 13)]) rfl ?_
  refine c_iconst dX11_init_246 (by decide) ?_
  obtain ⟨h247_244, hg247_244, hr⟩ := bnd hr
  refine c_callS (as := [(50, h235_233 a0 13), (0, -1)]) (rest := []) (X := (none, h247_244)) (Ctc_of_Ctr (fun G => oJ7_fill_53178W hg247_244)) gJ7_fill_53178 rfl (wsl_6 _ (List.mem_of_getElem? (i := 23) rfl)) rfl dX11_init_247 rfl (fun G => ?_)
  obtain rfl := Option.some.inj hr
  exact c_vret dX11_init_250 rfl rfl ⟨rfl, rfl⟩
