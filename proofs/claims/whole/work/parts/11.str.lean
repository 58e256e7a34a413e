/-! J0_coder_7d493 -/
theorem dJ0_coder_7d493_0 : decode cJ0_coder_7d493 0 = .ok (.getstatic 38, 3) := by decide +kernel
theorem dJ0_coder_7d493_3 : decode cJ0_coder_7d493 3 = .ok (.ifCond .eq 10, 3) := by decide +kernel
theorem dJ0_coder_7d493_6 : decode cJ0_coder_7d493 6 = .ok (.aload_n 0, 1) := by decide +kernel
theorem dJ0_coder_7d493_7 : decode cJ0_coder_7d493 7 = .ok (.getfield 15, 3) := by decide +kernel
theorem dJ0_coder_7d493_10 : decode cJ0_coder_7d493 10 = .ok (.goto 4, 3) := by decide +kernel
theorem dJ0_coder_7d493_13 : decode cJ0_coder_7d493 13 = .ok (.iconst 1, 1) := by decide +kernel
theorem dJ0_coder_7d493_14 : decode cJ0_coder_7d493 14 = .ok (.ireturn, 1) := by decide +kernel
abbrev M_J0_coder_7d493 : mM := (cJ0_coder_7d493, 1, RJ0, some .byte, false, 0, 0, 0, 0)
theorem gJ0_coder_7d493 : cI yJ0_coder_7d493 M_J0_coder_7d493 0 := ⟨(wsl_13 _ (List.mem_of_getElem? (i := 13) rfl)), (wsl_13 _ (List.mem_of_getElem? (i := 14) rfl)), (wsl_13 _ (List.mem_of_getElem? (i := 9) rfl)), (wsl_13 _ (List.mem_of_getElem? (i := 15) rfl)), by decide +kernel⟩
noncomputable def fJ0_coder_7d493 (h : hH) (a0 : Int) : Option (Int) :=
  some 0
section M_J0_coder_7d493
variable {p : Program} {l : Launch} {e : Env} {R : Room} {s : State} {m : MethodId} {args : Array Value} {below : List Frame} {meth : Method} {c : Code} {D : va_G} {G : gG} {A : Nat → Prop} {H0 : Heap} {n0 : Int} {x : Option vV × hH} {h : hH}
set_option maxRecDepth 100000 in
set_option maxHeartbeats 4000000 in
theorem oJ0_coder_7d493_b0 {a0 : Int} {K : Int → Prop} (k0 : ∀ r, K (r) → x = (some (0, r), h)) {r : Int} (hr : fJ0_coder_7d493 h a0 = some r) (hk : K r) : Wq p l e R s m args below meth c D G A H0 true n0 M_J0_coder_7d493 x 0 0 0 [(0, (90, a0))] [] h := by
  unfold fJ0_coder_7d493 at hr
  refine r_gstC dJ0_coder_7d493_0 (wsl_13 _ (List.mem_of_getElem? (i := 16) rfl)) ?_
  refine r_if_eq dJ0_coder_7d493_3 (tgt := 13) (by decide) (fun hc => ?_) (fun hc => ?_)
  · exact absurd hc (by decide)
  · refine r_aload_n dJ0_coder_7d493_6 rfl 0 rfl (nl rfl) ?_
    refine r_getSc dJ0_coder_7d493_7 (wsl_13 _ (List.mem_of_getElem? (i := 17) rfl)) ?_
    refine r_goto dJ0_coder_7d493_10 (tgt := 14) (by decide) ?_
    obtain rfl := Option.some.inj hr
    exact r_retG dJ0_coder_7d493_14 rfl (rfl) (k0 _ hk) ⟨rfl, rfl⟩
end M_J0_coder_7d493
theorem oJ0_coder_7d493 {l : Launch} {D : va_G} {G : gG} {h : hH} {a0 : Int} {r : Int} (hr : fJ0_coder_7d493 h a0 = some r) : Ctr l D G true yJ0_coder_7d493 M_J0_coder_7d493 [(90, a0)] h (some (0, r), h) :=
  Ctr_of (by decide) rfl (fun z => by cases z) (nl rfl) (fun {p e R s m args below meth c A H0} => by
    exact oJ0_coder_7d493_b0 (K := fun z9 => z9 = r) (fun r9 z => by rw [z]) hr rfl)
/-! J0_length_8abf5 -/
theorem dJ0_length_8abf5_0 : decode cJ0_length_8abf5 0 = .ok (.aload_n 0, 1) := by decide +kernel
theorem dJ0_length_8abf5_1 : decode cJ0_length_8abf5 1 = .ok (.getfield 9, 3) := by decide +kernel
theorem dJ0_length_8abf5_4 : decode cJ0_length_8abf5 4 = .ok (.arraylength, 1) := by decide +kernel
theorem dJ0_length_8abf5_5 : decode cJ0_length_8abf5 5 = .ok (.aload_n 0, 1) := by decide +kernel
theorem dJ0_length_8abf5_6 : decode cJ0_length_8abf5 6 = .ok (.invokevirtual 335, 3) := by decide +kernel
theorem dJ0_length_8abf5_9 : decode cJ0_length_8abf5 9 = .ok (.ishr, 1) := by decide +kernel
theorem dJ0_length_8abf5_10 : decode cJ0_length_8abf5 10 = .ok (.ireturn, 1) := by decide +kernel
abbrev M_J0_length_8abf5 : mM := (cJ0_length_8abf5, 1, RJ0, some .int, false, 1, 20, 0, 0)
theorem gJ0_length_8abf5 : cI yJ0_length_8abf5 M_J0_length_8abf5 0 := ⟨(wsl_13 _ (List.mem_of_getElem? (i := 7) rfl)), (wsl_13 _ (List.mem_of_getElem? (i := 8) rfl)), (wsl_13 _ (List.mem_of_getElem? (i := 9) rfl)), (wsl_13 _ (List.mem_of_getElem? (i := 10) rfl)), by decide +kernel⟩
noncomputable def fJ0_length_8abf5 (h : hH) (a0 : Int) : Option (Int) :=
  (fJ0_coder_7d493 h a0).bind fun r6 =>
  some (isrD 152 r6)
section M_J0_length_8abf5
variable {p : Program} {l : Launch} {e : Env} {R : Room} {s : State} {m : MethodId} {args : Array Value} {below : List Frame} {meth : Method} {c : Code} {D : va_G} {G : gG} {A : Nat → Prop} {H0 : Heap} {n0 : Int} {x : Option vV × hH} {h : hH}
set_option maxRecDepth 100000 in
set_option maxHeartbeats 4000000 in
theorem oJ0_length_8abf5_b0 {a0 : Int} {K : Int → Prop} (k0 : ∀ r, K (r) → x = (some (0, r), h)) {r : Int} (hr : fJ0_length_8abf5 h a0 = some r) (hk : K r) : Wq p l e R s m args below meth c D G A H0 true n0 M_J0_length_8abf5 x 0 0 0 [(0, (90, a0))] [] h := by
  unfold fJ0_length_8abf5 at hr
  refine r_aload_n dJ0_length_8abf5_0 rfl 0 rfl (nl rfl) ?_
  refine r_getSv dJ0_length_8abf5_1 (wsl_13 _ (List.mem_of_getElem? (i := 11) rfl)) ?_
  refine r_alenS dJ0_length_8abf5_4 ?_
  refine r_aload_n dJ0_length_8abf5_5 rfl 0 rfl (nl rfl) ?_
  obtain ⟨r6, hg6, hr⟩ := bnd hr
  refine k_T (o := a0) (as := []) (rest := [(0, 152)]) (X := (some (0, r6), h)) (oJ0_coder_7d493 hg6) gJ0_coder_7d493 rfl rfl (wsl_13 _ (List.mem_of_getElem? (i := 12) rfl)) rfl dJ0_length_8abf5_6 rfl ?_
  refine r_ishr dJ0_length_8abf5_9 ?_
  obtain rfl := Option.some.inj hr
  exact r_ret dJ0_length_8abf5_10 rfl (Or.inl ⟨rfl, rfl⟩) (k0 _ hk) ⟨rfl, rfl⟩
end M_J0_length_8abf5
theorem oJ0_length_8abf5 {l : Launch} {D : va_G} {G : gG} {h : hH} {a0 : Int} {r : Int} (hr : fJ0_length_8abf5 h a0 = some r) : Ctr l D G true yJ0_length_8abf5 M_J0_length_8abf5 [(90, a0)] h (some (0, r), h) :=
  Ctr_of (by decide) rfl (fun z => by cases z) (nl rfl) (fun {p e R s m args below meth c A H0} => by
    exact oJ0_length_8abf5_b0 (K := fun z9 => z9 = r) (fun r9 z => by rw [z]) hr rfl)
/-! J0_isLatin1_aae02 -/
theorem dJ0_isLatin1_aae02_0 : decode cJ0_isLatin1_aae02 0 = .ok (.getstatic 38, 3) := by decide +kernel
theorem dJ0_isLatin1_aae02_3 : decode cJ0_isLatin1_aae02 3 = .ok (.ifCond .eq 14, 3) := by decide +kernel
theorem dJ0_isLatin1_aae02_6 : decode cJ0_isLatin1_aae02 6 = .ok (.aload_n 0, 1) := by decide +kernel
theorem dJ0_isLatin1_aae02_7 : decode cJ0_isLatin1_aae02 7 = .ok (.getfield 15, 3) := by decide +kernel
theorem dJ0_isLatin1_aae02_10 : decode cJ0_isLatin1_aae02 10 = .ok (.ifCond .ne 7, 3) := by decide +kernel
theorem dJ0_isLatin1_aae02_13 : decode cJ0_isLatin1_aae02 13 = .ok (.iconst 1, 1) := by decide +kernel
theorem dJ0_isLatin1_aae02_14 : decode cJ0_isLatin1_aae02 14 = .ok (.goto 4, 3) := by decide +kernel
theorem dJ0_isLatin1_aae02_17 : decode cJ0_isLatin1_aae02 17 = .ok (.iconst 0, 1) := by decide +kernel
theorem dJ0_isLatin1_aae02_18 : decode cJ0_isLatin1_aae02 18 = .ok (.ireturn, 1) := by decide +kernel
abbrev M_J0_isLatin1_aae02 : mM := (cJ0_isLatin1_aae02, 1, RJ0, some .boolean, false, 0, 0, 0, 0)
theorem gJ0_isLatin1_aae02 : cI yJ0_isLatin1_aae02 M_J0_isLatin1_aae02 0 := ⟨(wsl_13 _ (List.mem_of_getElem? (i := 23) rfl)), (wsl_14 _ (List.mem_of_getElem? (i := 0) rfl)), (wsl_13 _ (List.mem_of_getElem? (i := 9) rfl)), (wsl_14 _ (List.mem_of_getElem? (i := 1) rfl)), by decide +kernel⟩
noncomputable def fJ0_isLatin1_aae02 (h : hH) (a0 : Int) : Option (Int) :=
  some 1
section M_J0_isLatin1_aae02
variable {p : Program} {l : Launch} {e : Env} {R : Room} {s : State} {m : MethodId} {args : Array Value} {below : List Frame} {meth : Method} {c : Code} {D : va_G} {G : gG} {A : Nat → Prop} {H0 : Heap} {n0 : Int} {x : Option vV × hH} {h : hH}
set_option maxRecDepth 100000 in
set_option maxHeartbeats 4000000 in
theorem oJ0_isLatin1_aae02_b0 {a0 : Int} {K : Int → Prop} (k0 : ∀ r, K (r) → x = (some (2, r), h)) {r : Int} (hr : fJ0_isLatin1_aae02 h a0 = some r) (hk : K r) : Wq p l e R s m args below meth c D G A H0 true n0 M_J0_isLatin1_aae02 x 0 0 0 [(0, (90, a0))] [] h := by
  unfold fJ0_isLatin1_aae02 at hr
  refine r_gstC dJ0_isLatin1_aae02_0 (wsl_13 _ (List.mem_of_getElem? (i := 16) rfl)) ?_
  refine r_if_eq dJ0_isLatin1_aae02_3 (tgt := 17) (by decide) (fun hc => ?_) (fun hc => ?_)
  · exact absurd hc (by decide)
  · refine r_aload_n dJ0_isLatin1_aae02_6 rfl 0 rfl (nl rfl) ?_
    refine r_getSc dJ0_isLatin1_aae02_7 (wsl_13 _ (List.mem_of_getElem? (i := 17) rfl)) ?_
    refine r_if_ne dJ0_isLatin1_aae02_10 (tgt := 17) (by decide) (fun hc => ?_) (fun hc => ?_)
    · exact absurd hc (by decide)
    · refine r_iconst dJ0_isLatin1_aae02_13 (by decide) ?_
      refine r_goto dJ0_isLatin1_aae02_14 (tgt := 18) (by decide) ?_
      refine r_scast 0 (v := (0, 1)) (w := (2, 1)) rfl cz (fun _ => Or.inr rfl) (st' := [(2, 1)]) rfl ?_
      obtain rfl := Option.some.inj hr
      exact r_ret dJ0_isLatin1_aae02_18 rfl (Or.inr ⟨rfl, rfl⟩) (k0 _ hk) ⟨rfl, rfl⟩
end M_J0_isLatin1_aae02
theorem oJ0_isLatin1_aae02 {l : Launch} {D : va_G} {G : gG} {h : hH} {a0 : Int} {r : Int} (hr : fJ0_isLatin1_aae02 h a0 = some r) : Ctr l D G true yJ0_isLatin1_aae02 M_J0_isLatin1_aae02 [(90, a0)] h (some (2, r), h) :=
  Ctr_of (by decide) rfl (fun z => by cases z) (nl rfl) (fun {p e R s m args below meth c A H0} => by
    exact oJ0_isLatin1_aae02_b0 (K := fun z9 => z9 = r) (fun r9 z => by rw [z]) hr rfl)
/-! J3_checkIndex_8e157 -/
theorem dJ3_checkIndex_8e157_0 : decode cJ3_checkIndex_8e157 0 = .ok (.iload_n 0, 1) := by decide +kernel
theorem dJ3_checkIndex_8e157_1 : decode cJ3_checkIndex_8e157 1 = .ok (.ifCond .lt 8, 3) := by decide +kernel
theorem dJ3_checkIndex_8e157_4 : decode cJ3_checkIndex_8e157 4 = .ok (.iload_n 0, 1) := by decide +kernel
theorem dJ3_checkIndex_8e157_5 : decode cJ3_checkIndex_8e157 5 = .ok (.iload_n 1, 1) := by decide +kernel
theorem dJ3_checkIndex_8e157_6 : decode cJ3_checkIndex_8e157 6 = .ok (.if_icmp .lt 10, 3) := by decide +kernel
theorem dJ3_checkIndex_8e157_9 : decode cJ3_checkIndex_8e157 9 = .ok (.aload_n 2, 1) := by decide +kernel
theorem dJ3_checkIndex_8e157_10 : decode cJ3_checkIndex_8e157 10 = .ok (.iload_n 0, 1) := by decide +kernel
theorem dJ3_checkIndex_8e157_11 : decode cJ3_checkIndex_8e157 11 = .ok (.iload_n 1, 1) := by decide +kernel
theorem dJ3_checkIndex_8e157_12 : decode cJ3_checkIndex_8e157 12 = .ok (.invokestatic 95, 3) := by decide +kernel
theorem dJ3_checkIndex_8e157_15 : decode cJ3_checkIndex_8e157 15 = .ok (.athrow, 1) := by decide +kernel
theorem dJ3_checkIndex_8e157_16 : decode cJ3_checkIndex_8e157 16 = .ok (.iload_n 0, 1) := by decide +kernel
theorem dJ3_checkIndex_8e157_17 : decode cJ3_checkIndex_8e157 17 = .ok (.ireturn, 1) := by decide +kernel
abbrev M_J3_checkIndex_8e157 : mM := (cJ3_checkIndex_8e157, 3, RJ3, some .int, false, 0, 0, 0, 0)
theorem gJ3_checkIndex_8e157 : cS yJ3_checkIndex_8e157 M_J3_checkIndex_8e157 3 := ⟨(wsl_14 _ (List.mem_of_getElem? (i := 11) rfl)), (wsl_14 _ (List.mem_of_getElem? (i := 12) rfl)), (wsl_14 _ (List.mem_of_getElem? (i := 13) rfl)), by decide +kernel⟩
noncomputable def fJ3_checkIndex_8e157_b9 (h : hH) (a0 a1 a2 : Int) : Option (Int) :=
  none
noncomputable def fJ3_checkIndex_8e157 (h : hH) (a0 a1 a2 : Int) : Option (Int) :=
  if a0 < 0 then
    fJ3_checkIndex_8e157_b9 h a0 a1 a2
  else
    if a0 < a1 then
      some a0
    else
      fJ3_checkIndex_8e157_b9 h a0 a1 a2
section M_J3_checkIndex_8e157
variable {p : Program} {l : Launch} {e : Env} {R : Room} {s : State} {m : MethodId} {args : Array Value} {below : List Frame} {meth : Method} {c : Code} {D : va_G} {G : gG} {A : Nat → Prop} {H0 : Heap} {n0 : Int} {x : Option vV × hH} {h : hH}
set_option maxRecDepth 100000 in
set_option maxHeartbeats 4000000 in
theorem oJ3_checkIndex_8e157_b9 {a0 a1 a2 : Int} {K : Int → Prop} (k0 : ∀ r, K (r) → x = (some (0, r), h)) {r : Int} (hr : fJ3_checkIndex_8e157_b9 h a0 a1 a2 = some r) (hk : K r) : Wq p l e R s m args below meth c D G A H0 true n0 M_J3_checkIndex_8e157 x 0 0 9 [(0, (0, a0)), (1, (0, a1)), (2, (92, a2))] [] h := by
  unfold fJ3_checkIndex_8e157_b9 at hr
  refine r_aload_n dJ3_checkIndex_8e157_9 rfl 2 rfl (nl rfl) ?_
  refine r_iload_n dJ3_checkIndex_8e157_10 rfl 0 rfl (Or.inl rfl) ?_
  refine r_iload_n dJ3_checkIndex_8e157_11 rfl 1 rfl (Or.inl rfl) ?_
  cases hr
set_option maxRecDepth 100000 in
set_option maxHeartbeats 4000000 in
theorem oJ3_checkIndex_8e157_b0 {a0 a1 a2 : Int} {K : Int → Prop} (k0 : ∀ r, K (r) → x = (some (0, r), h)) {r : Int} (hr : fJ3_checkIndex_8e157 h a0 a1 a2 = some r) (hk : K r) : Wq p l e R s m args below meth c D G A H0 true n0 M_J3_checkIndex_8e157 x 0 0 0 [(0, (0, a0)), (1, (0, a1)), (2, (92, a2))] [] h := by
  unfold fJ3_checkIndex_8e157 at hr
  refine r_iload_n dJ3_checkIndex_8e157_0 rfl 0 rfl (Or.inl rfl) ?_
  refine r_if_lt dJ3_checkIndex_8e157_1 (tgt := 9) (by decide) (fun hc => ?_) (fun hc => ?_)
  · have hr := ifp hr hc
    exact oJ3_checkIndex_8e157_b9 (K := K) (fun r z => k0 r z) hr hk
  · have hr := ifn hr hc
    refine r_iload_n dJ3_checkIndex_8e157_4 rfl 0 rfl (Or.inl rfl) ?_
    refine r_iload_n dJ3_checkIndex_8e157_5 rfl 1 rfl (Or.inl rfl) ?_
    refine r_icmp_lt dJ3_checkIndex_8e157_6 (tgt := 16) (by decide) (fun hc => ?_) (fun hc => ?_)
    · have hr := ifp hr hc
      refine r_iload_n dJ3_checkIndex_8e157_16 rfl 0 rfl (Or.inl rfl) ?_
      obtain rfl := Option.some.inj hr
      exact r_ret dJ3_checkIndex_8e157_17 rfl (Or.inl ⟨rfl, rfl⟩) (k0 _ hk) ⟨rfl, rfl⟩
    · have hr := ifn hr hc
      exact oJ3_checkIndex_8e157_b9 (K := K) (fun r z => k0 r z) hr hk
set_option maxRecDepth 100000 in
set_option maxHeartbeats 4000000 in
theorem oJ3N_checkIndex_8e157_b9 {a0 a1 a2 : Int} {K : Int → Prop} (k0 : ∀ r, K (r) → x = (some (0, r), h)) {r : Int} (hr : fJ3_checkIndex_8e157_b9 h a0 a1 a2 = some r) (hk : K r) : Wq p l e R s m args below meth c D G A H0 true n0 M_J3_checkIndex_8e157 x 0 0 9 [(0, (0, a0)), (1, (0, a1)), (2, (192, a2))] [] h := by
  unfold fJ3_checkIndex_8e157_b9 at hr
  refine r_aload_n dJ3_checkIndex_8e157_9 rfl 2 rfl (nl rfl) ?_
  refine r_iload_n dJ3_checkIndex_8e157_10 rfl 0 rfl (Or.inl rfl) ?_
  refine r_iload_n dJ3_checkIndex_8e157_11 rfl 1 rfl (Or.inl rfl) ?_
  cases hr
set_option maxRecDepth 100000 in
set_option maxHeartbeats 4000000 in
theorem oJ3N_checkIndex_8e157_b0 {a0 a1 a2 : Int} {K : Int → Prop} (k0 : ∀ r, K (r) → x = (some (0, r), h)) {r : Int} (hr : fJ3_checkIndex_8e157 h a0 a1 a2 = some r) (hk : K r) : Wq p l e R s m args below meth c D G A H0 true n0 M_J3_checkIndex_8e157 x 0 0 0 [(0, (0, a0)), (1, (0, a1)), (2, (192, a2))] [] h := by
  unfold fJ3_checkIndex_8e157 at hr
  refine r_iload_n dJ3_checkIndex_8e157_0 rfl 0 rfl (Or.inl rfl) ?_
  refine r_if_lt dJ3_checkIndex_8e157_1 (tgt := 9) (by decide) (fun hc => ?_) (fun hc => ?_)
  · have hr := ifp hr hc
    exact oJ3N_checkIndex_8e157_b9 (K := K) (fun r z => k0 r z) hr hk
  · have hr := ifn hr hc
    refine r_iload_n dJ3_checkIndex_8e157_4 rfl 0 rfl (Or.inl rfl) ?_
    refine r_iload_n dJ3_checkIndex_8e157_5 rfl 1 rfl (Or.inl rfl) ?_
    refine r_icmp_lt dJ3_checkIndex_8e157_6 (tgt := 16) (by decide) (fun hc => ?_) (fun hc => ?_)
    · have hr := ifp hr hc
      refine r_iload_n dJ3_checkIndex_8e157_16 rfl 0 rfl (Or.inl rfl) ?_
      obtain rfl := Option.some.inj hr
      exact r_ret dJ3_checkIndex_8e157_17 rfl (Or.inl ⟨rfl, rfl⟩) (k0 _ hk) ⟨rfl, rfl⟩
    · have hr := ifn hr hc
      exact oJ3N_checkIndex_8e157_b9 (K := K) (fun r z => k0 r z) hr hk
end M_J3_checkIndex_8e157
theorem oJ3_checkIndex_8e157 {l : Launch} {D : va_G} {G : gG} {h : hH} {a0 a1 a2 : Int} {r : Int} (hr : fJ3_checkIndex_8e157 h a0 a1 a2 = some r) : Ctr l D G true yJ3_checkIndex_8e157 M_J3_checkIndex_8e157 [(0, a0), (0, a1), (92, a2)] h (some (0, r), h) :=
  Ctr_of (by decide) rfl (fun z => by cases z) (nl rfl) (fun {p e R s m args below meth c A H0} => by
    exact oJ3_checkIndex_8e157_b0 (K := fun z9 => z9 = r) (fun r9 z => by rw [z]) hr rfl)
theorem oJ3N_checkIndex_8e157 {l : Launch} {D : va_G} {G : gG} {h : hH} {a0 a1 a2 : Int} {r : Int} (hr : fJ3_checkIndex_8e157 h a0 a1 a2 = some r) : Ctr l D G true yJ3_checkIndex_8e157 M_J3_checkIndex_8e157 [(0, a0), (0, a1), (192, a2)] h (some (0, r), h) :=
  Ctr_of (by decide) rfl (fun z => by cases z) (nl rfl) (fun {p e R s m args below meth c A H0} => by
    exact oJ3N_checkIndex_8e157_b0 (K := fun z9 => z9 = r) (fun r9 z => by rw [z]) hr rfl)
/-! J0_checkIndex_df160 -/
theorem dJ0_checkIndex_df160_0 : decode cJ0_checkIndex_df160 0 = .ok (.iload_n 0, 1) := by decide +kernel
theorem dJ0_checkIndex_df160_1 : decode cJ0_checkIndex_df160 1 = .ok (.iload_n 1, 1) := by decide +kernel
theorem dJ0_checkIndex_df160_2 : decode cJ0_checkIndex_df160 2 = .ok (.getstatic 1053, 3) := by decide +kernel
theorem dJ0_checkIndex_df160_5 : decode cJ0_checkIndex_df160 5 = .ok (.invokestatic 1059, 3) := by decide +kernel
theorem dJ0_checkIndex_df160_8 : decode cJ0_checkIndex_df160 8 = .ok (.pop, 1) := by decide +kernel
theorem dJ0_checkIndex_df160_9 : decode cJ0_checkIndex_df160 9 = .ok (.return_, 1) := by decide +kernel
abbrev M_J0_checkIndex_df160 : mM := (cJ0_checkIndex_df160, 2, RJ0, none, false, 1, 22, 0, 0)
theorem gJ0_checkIndex_df160 : cS yJ0_checkIndex_df160 M_J0_checkIndex_df160 2 := ⟨(wsl_14 _ (List.mem_of_getElem? (i := 7) rfl)), (wsl_13 _ (List.mem_of_getElem? (i := 9) rfl)), (wsl_14 _ (List.mem_of_getElem? (i := 8) rfl)), by decide +kernel⟩
noncomputable def fJ0_checkIndex_df160 (h : hH) (a0 a1 : Int) : Option (Unit) :=
  (fJ3_checkIndex_8e157 h a0 a1 1002).bind fun r5 =>
  some ()
section M_J0_checkIndex_df160
variable {p : Program} {l : Launch} {e : Env} {R : Room} {s : State} {m : MethodId} {args : Array Value} {below : List Frame} {meth : Method} {c : Code} {D : va_G} {G : gG} {A : Nat → Prop} {H0 : Heap} {n0 : Int} {x : Option vV × hH} {h : hH}
set_option maxRecDepth 100000 in
set_option maxHeartbeats 4000000 in
theorem oJ0_checkIndex_df160_b0 {a0 a1 : Int} {K : Unit → Prop} (k0 : K (()) → x = (none, h)) {r : Unit} (hr : fJ0_checkIndex_df160 h a0 a1 = some r) (hk : K r) : Wq p l e R s m args below meth c D G A H0 true n0 M_J0_checkIndex_df160 x 0 0 0 [(0, (0, a0)), (1, (0, a1))] [] h := by
  unfold fJ0_checkIndex_df160 at hr
  refine r_iload_n dJ0_checkIndex_df160_0 rfl 0 rfl (Or.inl rfl) ?_
  refine r_iload_n dJ0_checkIndex_df160_1 rfl 1 rfl (Or.inl rfl) ?_
  obtain ⟨r5, hg5, hr⟩ := bnd hr
  have hg6 : fJ3_checkIndex_8e157 h a0 a1 (-1) = some r5 := hg5
  refine r_gstF dJ0_checkIndex_df160_2 (wsl_14 _ (List.mem_of_getElem? (i := 9) rfl)) ?_ ?_
  · refine k_S (as := [(0, a0), (0, a1), (92, 1002)]) (rest := []) (X := (some (0, r5), h)) (oJ3_checkIndex_8e157 hg5) gJ3_checkIndex_8e157 rfl (wsl_14 _ (List.mem_of_getElem? (i := 10) rfl)) rfl dJ0_checkIndex_df160_5 rfl ?_
    refine r_pop dJ0_checkIndex_df160_8 (Nat.ne_of_beq_eq_false rfl) ?_
    obtain rfl := Option.some.inj hr
    exact r_vret dJ0_checkIndex_df160_9 rfl (k0 hk) ⟨rfl, rfl⟩
  · refine k_S (as := [(0, a0), (0, a1), (192, -1)]) (rest := []) (X := (some (0, r5), h)) (oJ3N_checkIndex_8e157 hg6) gJ3_checkIndex_8e157 rfl (wsl_14 _ (List.mem_of_getElem? (i := 10) rfl)) rfl dJ0_checkIndex_df160_5 rfl ?_
    refine r_pop dJ0_checkIndex_df160_8 (Nat.ne_of_beq_eq_false rfl) ?_
    obtain rfl := Option.some.inj hr
    exact r_vret dJ0_checkIndex_df160_9 rfl (k0 hk) ⟨rfl, rfl⟩
end M_J0_checkIndex_df160
theorem oJ0_checkIndex_df160 {l : Launch} {D : va_G} {G : gG} {h : hH} {a0 a1 : Int} {r : Unit} (hr : fJ0_checkIndex_df160 h a0 a1 = some r) : Ctr l D G true yJ0_checkIndex_df160 M_J0_checkIndex_df160 [(0, a0), (0, a1)] h (none, h) :=
  Ctr_of (by decide) rfl (fun z => by cases z) (nl rfl) (fun {p e R s m args below meth c A H0} => by
    exact oJ0_checkIndex_df160_b0 (K := fun z9 => z9 = r) (fun _ => rfl) hr rfl)
/-! J1_charAt_3b067 -/
theorem dJ1_charAt_3b067_0 : decode cJ1_charAt_3b067 0 = .ok (.iload_n 1, 1) := by decide +kernel
theorem dJ1_charAt_3b067_1 : decode cJ1_charAt_3b067 1 = .ok (.aload_n 0, 1) := by decide +kernel
theorem dJ1_charAt_3b067_2 : decode cJ1_charAt_3b067 2 = .ok (.arraylength, 1) := by decide +kernel
theorem dJ1_charAt_3b067_3 : decode cJ1_charAt_3b067 3 = .ok (.invokestatic 9, 3) := by decide +kernel
theorem dJ1_charAt_3b067_6 : decode cJ1_charAt_3b067 6 = .ok (.aload_n 0, 1) := by decide +kernel
theorem dJ1_charAt_3b067_7 : decode cJ1_charAt_3b067 7 = .ok (.iload_n 1, 1) := by decide +kernel
theorem dJ1_charAt_3b067_8 : decode cJ1_charAt_3b067 8 = .ok (.baload, 1) := by decide +kernel
theorem dJ1_charAt_3b067_9 : decode cJ1_charAt_3b067 9 = .ok (.sipush 255, 3) := by decide +kernel
theorem dJ1_charAt_3b067_12 : decode cJ1_charAt_3b067 12 = .ok (.iand, 1) := by decide +kernel
theorem dJ1_charAt_3b067_13 : decode cJ1_charAt_3b067 13 = .ok (.i2c, 1) := by decide +kernel
theorem dJ1_charAt_3b067_14 : decode cJ1_charAt_3b067 14 = .ok (.ireturn, 1) := by decide +kernel
abbrev M_J1_charAt_3b067 : mM := (cJ1_charAt_3b067, 2, RJ1, some .char, false, 2, 43, 0, 0)
theorem gJ1_charAt_3b067 : cS yJ1_charAt_3b067 M_J1_charAt_3b067 2 := ⟨(wsl_14 _ (List.mem_of_getElem? (i := 3) rfl)), (wsl_14 _ (List.mem_of_getElem? (i := 4) rfl)), (wsl_14 _ (List.mem_of_getElem? (i := 5) rfl)), by decide +kernel⟩
noncomputable def fJ1_charAt_3b067 (h : hH) (a0 a1 : Int) : Option (Int) :=
  (fJ0_checkIndex_df160 h a1 152).bind fun _u3 =>
  (sget a1).bind fun v8 =>
  some (i2cD (iadD v8 255))
section M_J1_charAt_3b067
variable {p : Program} {l : Launch} {e : Env} {R : Room} {s : State} {m : MethodId} {args : Array Value} {below : List Frame} {meth : Method} {c : Code} {D : va_G} {G : gG} {A : Nat → Prop} {H0 : Heap} {n0 : Int} {x : Option vV × hH} {h : hH}
set_option maxRecDepth 100000 in
set_option maxHeartbeats 4000000 in
theorem oJ1_charAt_3b067_b0 {a0 a1 : Int} {K : Int → Prop} (k0 : ∀ r, K (r) → x = (some (0, r), h)) {r : Int} (hr : fJ1_charAt_3b067 h a0 a1 = some r) (hk : K r) : Wq p l e R s m args below meth c D G A H0 true n0 M_J1_charAt_3b067 x 0 0 0 [(0, (91, a0)), (1, (0, a1))] [] h := by
  unfold fJ1_charAt_3b067 at hr
  refine r_iload_n dJ1_charAt_3b067_0 rfl 1 rfl (Or.inl rfl) ?_
  refine r_aload_n dJ1_charAt_3b067_1 rfl 0 rfl (nl rfl) ?_
  refine r_alenS dJ1_charAt_3b067_2 ?_
  obtain ⟨_u3, hg3, hr⟩ := bnd hr
  refine k_S (as := [(0, a1), (0, 152)]) (rest := []) (X := (none, h)) (oJ0_checkIndex_df160 hg3) gJ0_checkIndex_df160 rfl (wsl_14 _ (List.mem_of_getElem? (i := 6) rfl)) rfl dJ1_charAt_3b067_3 rfl ?_
  refine r_aload_n dJ1_charAt_3b067_6 rfl 0 rfl (nl rfl) ?_
  refine r_iload_n dJ1_charAt_3b067_7 rfl 1 rfl (Or.inl rfl) ?_
  obtain ⟨v8, hg8, hr⟩ := bnd hr
  refine r_baldS dJ1_charAt_3b067_8 hg8 ?_
  refine r_sipush dJ1_charAt_3b067_9 (by decide) (by decide) ?_
  refine r_iand dJ1_charAt_3b067_12 ?_
  refine r_i2c dJ1_charAt_3b067_13 ?_
  obtain rfl := Option.some.inj hr
  exact r_retG dJ1_charAt_3b067_14 rfl ((sget_ok hg8).2.1) (k0 _ hk) ⟨rfl, rfl⟩
end M_J1_charAt_3b067
theorem oJ1_charAt_3b067 {l : Launch} {D : va_G} {G : gG} {h : hH} {a0 a1 : Int} {r : Int} (hr : fJ1_charAt_3b067 h a0 a1 = some r) : Ctr l D G true yJ1_charAt_3b067 M_J1_charAt_3b067 [(91, a0), (0, a1)] h (some (0, r), h) :=
  Ctr_of (by decide) rfl (fun z => by cases z) (nl rfl) (fun {p e R s m args below meth c A H0} => by
    exact oJ1_charAt_3b067_b0 (K := fun z9 => z9 = r) (fun r9 z => by rw [z]) hr rfl)
theorem J1_nar {h : hH} {a0 a1 r : Int} (hr : fJ1_charAt_3b067 h a0 a1 = some r) : narrow .char (.int (Int32.ofInt r)) = .int (Int32.ofInt r) := by
  unfold fJ1_charAt_3b067 at hr
  obtain ⟨_, _, hr⟩ := bnd hr
  obtain ⟨v, hv, hr⟩ := bnd hr
  cases hr
  exact (sget_ok hv).2.1
/-! J0_charAt_5068e -/
theorem dJ0_charAt_5068e_0 : decode cJ0_charAt_5068e 0 = .ok (.aload_n 0, 1) := by decide +kernel
theorem dJ0_charAt_5068e_1 : decode cJ0_charAt_5068e 1 = .ok (.invokevirtual 492, 3) := by decide +kernel
theorem dJ0_charAt_5068e_4 : decode cJ0_charAt_5068e 4 = .ok (.ifCond .eq 12, 3) := by decide +kernel
theorem dJ0_charAt_5068e_7 : decode cJ0_charAt_5068e 7 = .ok (.aload_n 0, 1) := by decide +kernel
theorem dJ0_charAt_5068e_8 : decode cJ0_charAt_5068e 8 = .ok (.getfield 9, 3) := by decide +kernel
theorem dJ0_charAt_5068e_11 : decode cJ0_charAt_5068e 11 = .ok (.iload_n 1, 1) := by decide +kernel
theorem dJ0_charAt_5068e_12 : decode cJ0_charAt_5068e 12 = .ok (.invokestatic 495, 3) := by decide +kernel
theorem dJ0_charAt_5068e_15 : decode cJ0_charAt_5068e 15 = .ok (.ireturn, 1) := by decide +kernel
theorem dJ0_charAt_5068e_16 : decode cJ0_charAt_5068e 16 = .ok (.aload_n 0, 1) := by decide +kernel
theorem dJ0_charAt_5068e_17 : decode cJ0_charAt_5068e 17 = .ok (.getfield 9, 3) := by decide +kernel
theorem dJ0_charAt_5068e_20 : decode cJ0_charAt_5068e 20 = .ok (.iload_n 1, 1) := by decide +kernel
theorem dJ0_charAt_5068e_21 : decode cJ0_charAt_5068e 21 = .ok (.invokestatic 498, 3) := by decide +kernel
theorem dJ0_charAt_5068e_24 : decode cJ0_charAt_5068e 24 = .ok (.ireturn, 1) := by decide +kernel
abbrev M_J0_charAt_5068e : mM := (cJ0_charAt_5068e, 2, RJ0, some .char, false, 3, 64, 0, 0)
theorem gJ0_charAt_5068e : cI yJ0_charAt_5068e M_J0_charAt_5068e 1 := ⟨(wsl_13 _ (List.mem_of_getElem? (i := 19) rfl)), (wsl_13 _ (List.mem_of_getElem? (i := 20) rfl)), (wsl_13 _ (List.mem_of_getElem? (i := 9) rfl)), (wsl_13 _ (List.mem_of_getElem? (i := 21) rfl)), by decide +kernel⟩
noncomputable def fJ0_charAt_5068e (h : hH) (a0 a1 : Int) : Option (Int) :=
  (fJ0_isLatin1_aae02 h a0).bind fun r1 =>
  if r1 = 0 then
    none
  else
    (fJ1_charAt_3b067 h 1001 a1).bind fun r12 =>
    some r12
section M_J0_charAt_5068e
variable {p : Program} {l : Launch} {e : Env} {R : Room} {s : State} {m : MethodId} {args : Array Value} {below : List Frame} {meth : Method} {c : Code} {D : va_G} {G : gG} {A : Nat → Prop} {H0 : Heap} {n0 : Int} {x : Option vV × hH} {h : hH}
set_option maxRecDepth 100000 in
set_option maxHeartbeats 4000000 in
theorem oJ0_charAt_5068e_b0 {a0 a1 : Int} {K : Int → Prop} (k0 : ∀ r, K (r) → x = (some (0, r), h)) {r : Int} (hr : fJ0_charAt_5068e h a0 a1 = some r) (hk : K r) : Wq p l e R s m args below meth c D G A H0 true n0 M_J0_charAt_5068e x 0 0 0 [(0, (90, a0)), (1, (0, a1))] [] h := by
  unfold fJ0_charAt_5068e at hr
  refine r_aload_n dJ0_charAt_5068e_0 rfl 0 rfl (nl rfl) ?_
  obtain ⟨r1, hg1, hr⟩ := bnd hr
  refine k_T (o := a0) (as := []) (rest := []) (X := (some (2, r1), h)) (oJ0_isLatin1_aae02 hg1) gJ0_isLatin1_aae02 rfl rfl (wsl_13 _ (List.mem_of_getElem? (i := 22) rfl)) rfl dJ0_charAt_5068e_1 rfl ?_
  refine r_scast 0 (v := (2, r1)) (w := (0, r1)) rfl zc hTz (st' := [(0, r1)]) rfl ?_
  refine r_if_eq dJ0_charAt_5068e_4 (tgt := 16) (by decide) (fun hc => ?_) (fun hc => ?_)
  · have hr := ifp hr hc
    cases hr
  · have hr := ifn hr hc
    refine r_aload_n dJ0_charAt_5068e_7 rfl 0 rfl (nl rfl) ?_
    refine r_getSv dJ0_charAt_5068e_8 (wsl_13 _ (List.mem_of_getElem? (i := 11) rfl)) ?_
    refine r_iload_n dJ0_charAt_5068e_11 rfl 1 rfl (Or.inl rfl) ?_
    obtain ⟨r12, hg12, hr⟩ := bnd hr
    refine k_S (as := [(91, 1001), (0, a1)]) (rest := []) (X := (some (0, r12), h)) (oJ1_charAt_3b067 hg12) gJ1_charAt_3b067 rfl (wsl_14 _ (List.mem_of_getElem? (i := 2) rfl)) rfl dJ0_charAt_5068e_12 rfl ?_
    obtain rfl := Option.some.inj hr
    exact r_retG dJ0_charAt_5068e_15 rfl ((J1_nar hg12)) (k0 _ hk) ⟨rfl, rfl⟩
end M_J0_charAt_5068e
theorem oJ0_charAt_5068e {l : Launch} {D : va_G} {G : gG} {h : hH} {a0 a1 : Int} {r : Int} (hr : fJ0_charAt_5068e h a0 a1 = some r) : Ctr l D G true yJ0_charAt_5068e M_J0_charAt_5068e [(90, a0), (0, a1)] h (some (0, r), h) :=
  Ctr_of (by decide) rfl (fun z => by cases z) (nl rfl) (fun {p e R s m args below meth c A H0} => by
    exact oJ0_charAt_5068e_b0 (K := fun z9 => z9 = r) (fun r9 z => by rw [z]) hr rfl)
/-! X9_kindOfWord -/
theorem dX9_kindOfWord_0 : decode cX9_kindOfWord 0 = .ok (.iconst 0, 1) := by decide +kernel
theorem dX9_kindOfWord_1 : decode cX9_kindOfWord 1 = .ok (.istore_n 2, 1) := by decide +kernel
theorem dX9_kindOfWord_2 : decode cX9_kindOfWord 2 = .ok (.lconst 0, 1) := by decide +kernel
theorem dX9_kindOfWord_3 : decode cX9_kindOfWord 3 = .ok (.lstore_n 3, 1) := by decide +kernel
theorem dX9_kindOfWord_4 : decode cX9_kindOfWord 4 = .ok (.iconst 0, 1) := by decide +kernel
theorem dX9_kindOfWord_5 : decode cX9_kindOfWord 5 = .ok (.istore 5, 2) := by decide +kernel
theorem dX9_kindOfWord_7 : decode cX9_kindOfWord 7 = .ok (.iload 5, 2) := by decide +kernel
theorem dX9_kindOfWord_9 : decode cX9_kindOfWord 9 = .ok (.ldc 88, 2) := by decide +kernel
theorem dX9_kindOfWord_11 : decode cX9_kindOfWord 11 = .ok (.invokevirtual 90, 3) := by decide +kernel
theorem dX9_kindOfWord_14 : decode cX9_kindOfWord 14 = .ok (.if_icmp .ge 60, 3) := by decide +kernel
theorem dX9_kindOfWord_17 : decode cX9_kindOfWord 17 = .ok (.ldc 88, 2) := by decide +kernel
theorem dX9_kindOfWord_19 : decode cX9_kindOfWord 19 = .ok (.iload 5, 2) := by decide +kernel
theorem dX9_kindOfWord_21 : decode cX9_kindOfWord 21 = .ok (.invokevirtual 95, 3) := by decide +kernel
theorem dX9_kindOfWord_24 : decode cX9_kindOfWord 24 = .ok (.istore 6, 2) := by decide +kernel
theorem dX9_kindOfWord_26 : decode cX9_kindOfWord 26 = .ok (.iload 6, 2) := by decide +kernel
theorem dX9_kindOfWord_28 : decode cX9_kindOfWord 28 = .ok (.bipush 32, 2) := by decide +kernel
theorem dX9_kindOfWord_30 : decode cX9_kindOfWord 30 = .ok (.if_icmp .eq 21, 3) := by decide +kernel
theorem dX9_kindOfWord_33 : decode cX9_kindOfWord 33 = .ok (.lload_n 3, 1) := by decide +kernel
theorem dX9_kindOfWord_34 : decode cX9_kindOfWord 34 = .ok (.ldc2_w 68, 3) := by decide +kernel
theorem dX9_kindOfWord_37 : decode cX9_kindOfWord 37 = .ok (.lmul, 1) := by decide +kernel
theorem dX9_kindOfWord_38 : decode cX9_kindOfWord 38 = .ok (.iload 6, 2) := by decide +kernel
theorem dX9_kindOfWord_40 : decode cX9_kindOfWord 40 = .ok (.bipush 97, 2) := by decide +kernel
theorem dX9_kindOfWord_42 : decode cX9_kindOfWord 42 = .ok (.isub, 1) := by decide +kernel
theorem dX9_kindOfWord_43 : decode cX9_kindOfWord 43 = .ok (.iconst 1, 1) := by decide +kernel
theorem dX9_kindOfWord_44 : decode cX9_kindOfWord 44 = .ok (.iadd, 1) := by decide +kernel
theorem dX9_kindOfWord_45 : decode cX9_kindOfWord 45 = .ok (.i2l, 1) := by decide +kernel
theorem dX9_kindOfWord_46 : decode cX9_kindOfWord 46 = .ok (.ladd, 1) := by decide +kernel
theorem dX9_kindOfWord_47 : decode cX9_kindOfWord 47 = .ok (.lstore_n 3, 1) := by decide +kernel
theorem dX9_kindOfWord_48 : decode cX9_kindOfWord 48 = .ok (.goto 20, 3) := by decide +kernel
theorem dX9_kindOfWord_51 : decode cX9_kindOfWord 51 = .ok (.lload_n 3, 1) := by decide +kernel
theorem dX9_kindOfWord_52 : decode cX9_kindOfWord 52 = .ok (.lload_n 0, 1) := by decide +kernel
theorem dX9_kindOfWord_53 : decode cX9_kindOfWord 53 = .ok (.lcmp, 1) := by decide +kernel
theorem dX9_kindOfWord_54 : decode cX9_kindOfWord 54 = .ok (.ifCond .ne 9, 3) := by decide +kernel
theorem dX9_kindOfWord_57 : decode cX9_kindOfWord 57 = .ok (.sipush 128, 3) := by decide +kernel
theorem dX9_kindOfWord_60 : decode cX9_kindOfWord 60 = .ok (.iload_n 2, 1) := by decide +kernel
theorem dX9_kindOfWord_61 : decode cX9_kindOfWord 61 = .ok (.iadd, 1) := by decide +kernel
theorem dX9_kindOfWord_62 : decode cX9_kindOfWord 62 = .ok (.ireturn, 1) := by decide +kernel
theorem dX9_kindOfWord_63 : decode cX9_kindOfWord 63 = .ok (.iinc 2 1, 3) := by decide +kernel
theorem dX9_kindOfWord_66 : decode cX9_kindOfWord 66 = .ok (.lconst 0, 1) := by decide +kernel
theorem dX9_kindOfWord_67 : decode cX9_kindOfWord 67 = .ok (.lstore_n 3, 1) := by decide +kernel
theorem dX9_kindOfWord_68 : decode cX9_kindOfWord 68 = .ok (.iinc 5 1, 3) := by decide +kernel
theorem dX9_kindOfWord_71 : decode cX9_kindOfWord 71 = .ok (.goto (-64), 3) := by decide +kernel
theorem dX9_kindOfWord_74 : decode cX9_kindOfWord 74 = .ok (.iconst 4, 1) := by decide +kernel
theorem dX9_kindOfWord_75 : decode cX9_kindOfWord 75 = .ok (.ireturn, 1) := by decide +kernel
abbrev M_X9_kindOfWord : mM := (cX9_kindOfWord, 7, RX9, some .int, false, 4, 85, 0, 0)
theorem gX9_kindOfWord : cS yX9_kindOfWord M_X9_kindOfWord 1 := ⟨(wsl_13 _ (List.mem_of_getElem? (i := 4) rfl)), (wsl_1 _ (List.mem_of_getElem? (i := 15) rfl)), (wsl_13 _ (List.mem_of_getElem? (i := 5) rfl)), by decide +kernel⟩
noncomputable def fX9_kindOfWord_s7 (h : hH) (a0 : Int) : Int × Int × Int → Option ((Int × Int × Int) ⊕ (Int)) := fun (l2, l3, l5) =>
  (fJ0_length_8abf5 h 1000).bind fun r11 =>
  if l5 < r11 then
    (fJ0_charAt_5068e h 1000 l5).bind fun r21 =>
    if r21 = 32 then
      if lcmD l3 a0 = 0 then
        some (.inr (w32 (128 + l2)))
      else
        some (.inl (w32 (l2 + 1), 0, w32 (l5 + 1)))
    else
      some (.inl (l2, w64 ((w64 (l3 * 32)) + (w32 ((w32 (r21 - 97)) + 1))), w32 (l5 + 1)))
  else
    some (.inr (4))
noncomputable def fX9_kindOfWord (h : hH) (a0 : Int) : Option (Int) :=
  lpO (fX9_kindOfWord_s7 h a0) (0, 0, 0)
section M_X9_kindOfWord
variable {p : Program} {l : Launch} {e : Env} {R : Room} {s : State} {m : MethodId} {args : Array Value} {below : List Frame} {meth : Method} {c : Code} {D : va_G} {G : gG} {A : Nat → Prop} {H0 : Heap} {n0 : Int} {x : Option vV × hH} {h : hH}
set_option maxRecDepth 100000 in
set_option maxHeartbeats 4000000 in
theorem oX9_kindOfWord_s7 {a0 l2 l3 l5 : Int} {K : (Int × Int × Int) ⊕ (Int) → Prop} (k0 : ∀ r, K (.inr (r)) → x = (some (0, r), h)) (k1 : ∀ (l2 : Int) (l3 : Int) (l5 : Int), K (.inl (l2, l3, l5)) → Wq p l e R s m args below meth c D G A H0 true n0 M_X9_kindOfWord x 0 0 7 [(0, (1, a0)), (2, (0, l2)), (3, (1, l3)), (5, (0, l5))] [] h) {r : (Int × Int × Int) ⊕ (Int)} (hr : fX9_kindOfWord_s7 h a0 (l2, l3, l5) = some r) (hk : K r) : Wq p l e R s m args below meth c D G A H0 true n0 M_X9_kindOfWord x 0 0 7 [(0, (1, a0)), (2, (0, l2)), (3, (1, l3)), (5, (0, l5))] [] h := by
  unfold fX9_kindOfWord_s7 at hr
  refine r_iload dX9_kindOfWord_7 3 rfl (Or.inl rfl) ?_
  refine r_ldcS dX9_kindOfWord_9 rfl ?_
  obtain ⟨r11, hg11, hr⟩ := bnd hr
  refine k_T (o := 1000) (as := []) (rest := [(0, l5)]) (X := (some (0, r11), h)) (oJ0_length_8abf5 hg11) gJ0_length_8abf5 rfl rfl (wsl_13 _ (List.mem_of_getElem? (i := 6) rfl)) rfl dX9_kindOfWord_11 rfl ?_
  refine r_icmp_ge dX9_kindOfWord_14 (tgt := 74) (by decide) (fun hc => ?_) (fun hc => ?_)
  · have hr := ifn hr hc
    refine r_iconst dX9_kindOfWord_74 (by decide) ?_
    obtain rfl := Option.some.inj hr
    exact r_ret dX9_kindOfWord_75 rfl (Or.inl ⟨rfl, rfl⟩) (k0 _ hk) ⟨rfl, rfl⟩
  · have hr := ifp hr hc
    refine r_ldcS dX9_kindOfWord_17 rfl ?_
    refine r_iload dX9_kindOfWord_19 3 rfl (Or.inl rfl) ?_
    obtain ⟨r21, hg21, hr⟩ := bnd hr
    refine k_T (o := 1000) (as := [(0, l5)]) (rest := []) (X := (some (0, r21), h)) (oJ0_charAt_5068e hg21) gJ0_charAt_5068e rfl rfl (wsl_13 _ (List.mem_of_getElem? (i := 18) rfl)) rfl dX9_kindOfWord_21 rfl ?_
    refine r_istore dX9_kindOfWord_24 (Or.inl rfl) (by decide) (lv' := [(6, (0, r21)), (0, (1, a0)), (2, (0, l2)), (3, (1, l3)), (5, (0, l5))]) rfl ?_
    refine r_iload dX9_kindOfWord_26 0 rfl (Or.inl rfl) ?_
    refine r_bipush dX9_kindOfWord_28 (by decide) (by decide) ?_
    refine r_icmp_eq dX9_kindOfWord_30 (tgt := 51) (by decide) (fun hc => ?_) (fun hc => ?_)
    · have hr := ifp hr hc
      refine r_lload_n dX9_kindOfWord_51 rfl 3 rfl ?_
      refine r_lload_n dX9_kindOfWord_52 rfl 1 rfl ?_
      refine r_lcmp dX9_kindOfWord_53 ?_
      refine r_if_ne dX9_kindOfWord_54 (tgt := 63) (by decide) (fun hc => ?_) (fun hc => ?_)
      · have hr := ifn hr hc
        refine r_iinc (k := 2) (v := l2) dX9_kindOfWord_63 rfl (by decide) (lv' := [(2, (0, w32 (l2 + 1))), (6, (0, r21)), (0, (1, a0)), (3, (1, l3)), (5, (0, l5))]) rfl ?_
        refine r_lconst (v := 0) dX9_kindOfWord_66 (by decide) (by decide) ?_
        refine r_lstore_n dX9_kindOfWord_67 rfl (by decide) (lv' := [(3, (1, 0)), (2, (0, w32 (l2 + 1))), (6, (0, r21)), (0, (1, a0)), (5, (0, l5))]) rfl ?_
        refine r_iinc (k := 4) (v := l5) dX9_kindOfWord_68 rfl (by decide) (lv' := [(5, (0, w32 (l5 + 1))), (3, (1, 0)), (2, (0, w32 (l2 + 1))), (6, (0, r21)), (0, (1, a0))]) rfl ?_
        refine r_goto dX9_kindOfWord_71 (tgt := 7) (by decide) ?_
        refine r_sub [4, 2, 1, 0] (lv' := [(0, (1, a0)), (2, (0, w32 (l2 + 1))), (3, (1, 0)), (5, (0, w32 (l5 + 1)))]) rfl ?_
        obtain rfl := Option.some.inj hr
        exact k1 _ _ _ hk
      · have hr := ifp hr hc
        refine r_sipush dX9_kindOfWord_57 (by decide) (by decide) ?_
        refine r_iload_n dX9_kindOfWord_60 rfl 2 rfl (Or.inl rfl) ?_
        refine r_iadd dX9_kindOfWord_61 ?_
        obtain rfl := Option.some.inj hr
        exact r_ret dX9_kindOfWord_62 rfl (Or.inl ⟨rfl, rfl⟩) (k0 _ hk) ⟨rfl, rfl⟩
    · have hr := ifn hr hc
      refine r_lload_n dX9_kindOfWord_33 rfl 3 rfl ?_
      refine r_ldc2' (v := 32) dX9_kindOfWord_34 (by decide) (wsl_13 _ (List.mem_of_getElem? (i := 2) rfl)) ?_
      refine r_lmul dX9_kindOfWord_37 ?_
      refine r_iload dX9_kindOfWord_38 0 rfl (Or.inl rfl) ?_
      refine r_bipush dX9_kindOfWord_40 (by decide) (by decide) ?_
      refine r_isub dX9_kindOfWord_42 ?_
      refine r_iconst dX9_kindOfWord_43 (by decide) ?_
      refine r_iadd dX9_kindOfWord_44 ?_
      refine r_i2l dX9_kindOfWord_45 ?_
      refine r_ladd dX9_kindOfWord_46 ?_
      refine r_lstore_n dX9_kindOfWord_47 rfl (by decide) (lv' := [(3, (1, w64 ((w64 (l3 * 32)) + (w32 ((w32 (r21 - 97)) + 1))))), (6, (0, r21)), (0, (1, a0)), (2, (0, l2)), (5, (0, l5))]) rfl ?_
      refine r_goto dX9_kindOfWord_48 (tgt := 68) (by decide) ?_
      refine r_iinc (k := 4) (v := l5) dX9_kindOfWord_68 rfl (by decide) (lv' := [(5, (0, w32 (l5 + 1))), (3, (1, w64 ((w64 (l3 * 32)) + (w32 ((w32 (r21 - 97)) + 1))))), (6, (0, r21)), (0, (1, a0)), (2, (0, l2))]) rfl ?_
      refine r_goto dX9_kindOfWord_71 (tgt := 7) (by decide) ?_
      refine r_sub [3, 4, 1, 0] (lv' := [(0, (1, a0)), (2, (0, l2)), (3, (1, w64 ((w64 (l3 * 32)) + (w32 ((w32 (r21 - 97)) + 1))))), (5, (0, w32 (l5 + 1)))]) rfl ?_
      obtain rfl := Option.some.inj hr
      exact k1 _ _ _ hk
set_option maxRecDepth 100000 in
set_option maxHeartbeats 4000000 in
theorem oX9_kindOfWord_b0 {a0 : Int} {K : Int → Prop} (k0 : ∀ r, K (r) → x = (some (0, r), h)) {r : Int} (hr : fX9_kindOfWord h a0 = some r) (hk : K r) : Wq p l e R s m args below meth c D G A H0 true n0 M_X9_kindOfWord x 0 0 0 [(0, (1, a0))] [] h := by
  unfold fX9_kindOfWord at hr
  refine r_iconst dX9_kindOfWord_0 (by decide) ?_
  refine r_istore_n dX9_kindOfWord_1 rfl (Or.inl rfl) (by decide) (lv' := [(2, (0, 0)), (0, (1, a0))]) rfl ?_
  refine r_lconst (v := 0) dX9_kindOfWord_2 (by decide) (by decide) ?_
  refine r_lstore_n dX9_kindOfWord_3 rfl (by decide) (lv' := [(3, (1, 0)), (2, (0, 0)), (0, (1, a0))]) rfl ?_
  refine r_iconst dX9_kindOfWord_4 (by decide) ?_
  refine r_istore dX9_kindOfWord_5 (Or.inl rfl) (by decide) (lv' := [(5, (0, 0)), (3, (1, 0)), (2, (0, 0)), (0, (1, a0))]) rfl ?_
  refine r_sub [3, 2, 1, 0] (lv' := [(0, (1, a0)), (2, (0, 0)), (3, (1, 0)), (5, (0, 0))]) rfl ?_
  exact lp_ok (w := fun (q : Int × Int × Int) => Wq p l e R s m args below meth c D G A H0 true n0 M_X9_kindOfWord x 0 0 7 [(0, (1, a0)), (2, (0, q.1)), (3, (1, q.2.1)), (5, (0, q.2.2))] [] (h)) (K := K) (fun ⟨q0, q1, q2⟩ r h1 h2 => oX9_kindOfWord_s7 (K := Sum.elim (fun (q : Int × Int × Int) => Wq p l e R s m args below meth c D G A H0 true n0 M_X9_kindOfWord x 0 0 7 [(0, (1, a0)), (2, (0, q.1)), (3, (1, q.2.1)), (5, (0, q.2.2))] [] (h)) (K)) (fun r z => k0 r z) (fun _ _ _ z => z) h1 h2) hr hk
end M_X9_kindOfWord
theorem oX9_kindOfWord {l : Launch} {D : va_G} {G : gG} {h : hH} {a0 : Int} {r : Int} (hr : fX9_kindOfWord h a0 = some r) : Ctr l D G true yX9_kindOfWord M_X9_kindOfWord [(1, a0)] h (some (0, r), h) :=
  Ctr_of (by decide) rfl (fun z => by cases z) (nl rfl) (fun {p e R s m args below meth c A H0} => by
    exact oX9_kindOfWord_b0 (K := fun z9 => z9 = r) (fun r9 z => by rw [z]) hr rfl)
