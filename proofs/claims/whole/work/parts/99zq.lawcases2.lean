/-! THE LAW'S CASES cell, col, mean -/
theorem lcm_r {v : Int} : lcmD v v = 0 := by
  unfold lcmD
  rw [if_neg (Int.lt_irrefl v), if_pos rfl]
section LAWX
variable {p : Program} {l : Launch} {e9 : Env} {R : Room} {s : State} {m : MethodId} {args : Array Value} {below : List Frame} {meth : Method} {c : Code} {D : va_G} {G : gG} {A : Nat → Prop} {H0 : Heap} {n0 : Int} {M : mM} {Q : State → Prop} {cells slots : Nat} {pc : Nat} {lv : List (Nat × vV)} {st : List vV} {h : hH} {b L : Nat} {xs : Nat → Int32} {i : Int}
set_option maxRecDepth 100000 in
set_option maxHeartbeats 4000000 in
theorem lcase_18 (htr : l.stackTraces = false) (hB : lcOk G A s b L xs) (hI : Inv h) (hi : 0 ≤ i ∧ i + 6 ≤ L) (hroom : cells + 1 ≤ 601024 ∧ slots + 6 ≤ 7293033) (kk : ∀ e cells9 slots9, Inv e → cells9 ≤ cells + 1 → slots9 ≤ slots + 6 → Wz p l e9 R s m args below meth c D G A H0 true n0 M_L_law Q cells9 slots9 1282 (lvL i) [] e) : Wz p l e9 R s m args below meth c D G A H0 true n0 M_L_law Q cells slots 630 (lvL i) [] h := by
  obtain ⟨hL, -, ⟨i1, i2, -, -⟩, -⟩ := id hI
  have hc := cellV hL i1 i2 (scr9 xs (i + 1)) (scr9 xs (i + 2))
  generalize ho : cellS (h 194) (scr9 xs (i + 1)) (scr9 xs (i + 2)) = o at hc
  have hF := cellF hL hc
  have I1 : Inv (lwX h 224 o).2 := by
    cases o with
    | none => exact hI
    | some v => exact hI.out v
  have es : cellS ((lwX h 224 o).2 194) (scr9 xs (i + 1)) (scr9 xs (i + 2)) = o := by
    cases o with
    | none => exact ho
    | some v =>
      refine Eq.trans ?_ ho
      show cellS (hup h 224 0 v 194) (scr9 xs (i + 1)) (scr9 xs (i + 2)) = _
      rw [hup_off (by decide)]
  obtain ⟨jL, -, ⟨j1, j2, -, -⟩, -⟩ := id I1
  obtain ⟨o1, q1, q2⟩ := cell_ok jL j1 j2 (scr9 xs (i + 1)) (scr9 xs (i + 2))
  rw [cellV jL j1 j2 (scr9 xs (i + 1)) (scr9 xs (i + 2)), es] at q1
  obtain rfl := Option.some.inj q1
  have hI9 := I1.th (trn o)
  have l9 := ll_224 hL
  refine z_aload_n dL_law_630 rfl 1 rfl (nl rfl) ?_
  refine z_arg (j := 1) 0 4 hB hi (by decide) rfl rfl dL_law_631 dL_law_632 dL_law_634 dL_law_635 dL_law_636 rfl ?_
  refine z_arg (j := 2) 0 4 hB hi (by decide) rfl rfl dL_law_637 dL_law_638 dL_law_640 dL_law_641 dL_law_642 rfl ?_
  refine z_aload_n dL_law_643 rfl 3 rfl (nl rfl) ?_
  refine z_callT (hh9 := [(0, 10, 13, 13)]) (as := [(21, 0), (0, scr9 xs (i + 1)), (0, scr9 xs (i + 2)), (51, 224)]) (rest := []) (X := lwX h 224 o) (oL_cell htr hF (by rw [l9]; decide)) (wsl_54 _ (List.mem_of_getElem? (i := 16) rfl)) (wsl_54 _ (List.mem_of_getElem? (i := 17) rfl)) (wsl_54 _ (List.mem_of_getElem? (i := 18) rfl)) (wsl_54 _ (List.mem_of_getElem? (i := 19) rfl)) (by have h9 : yL_cell.cls ≠ "java/lang/invoke/MethodHandle" ∧ yL_cell.cls ≠ "java/lang/invoke/VarHandle" ∧ (parseMethodDescriptor yL_cell.desc).map (fun d => d.parameters.length) = some 4 := (by decide +kernel); exact h9) ⟨nl rfl, nl rfl⟩ hroom (nl rfl) dL_law_644 rfl hB.2.2.2.2.2 ?_
  have eX : lwX h 224 o = (some (0, trn o), (lwX h 224 o).2) := by cases o <;> rfl
  have e1 : (lwX h 224 o).1.toList ++ ([] : List vV) = [(0, trn o)] := by cases o <;> rfl
  rw [e1]
  refine z_istore dL_law_647 (Or.inl rfl) (by decide) (lv' := (5, (0, trn o)) :: lvL i) rfl ?_
  refine z_aload_n dL_law_649 rfl 3 rfl (nl rfl) ?_
  refine z_arg (j := 1) 1 5 hB hi (by decide) rfl rfl dL_law_650 dL_law_651 dL_law_653 dL_law_654 dL_law_655 rfl ?_
  refine z_arg (j := 2) 1 5 hB hi (by decide) rfl rfl dL_law_656 dL_law_657 dL_law_659 dL_law_660 dL_law_661 rfl ?_
  refine kl_V (ci := 12) (o := 192) (T := TX12) (as := [(0, scr9 xs (i + 1)), (0, scr9 xs (i + 2))]) (rest := []) (X := (some (0, ans o), hup (lwX h 224 o).2 192 0 (trn o))) (oX12_cell q2) gX12_cell rfl (by decide) rfl (wsl_55 _ (List.mem_of_getElem? (i := 5) rfl)) rfl ⟨rfl, rfl⟩ hroom dL_law_662 rfl ?_
  refine z_istore dL_law_665 (Or.inl rfl) (by decide) (lv' := (6, (0, ans o)) :: (5, (0, trn o)) :: lvL i) rfl ?_
  refine z_aload_n dL_law_667 rfl 4 rfl (nl rfl) ?_
  have qt : fX12_thrown (hup (lwX h 224 o).2 192 0 (trn o)) 192 = some (trn o) := by unfold fX12_thrown; rw [hup_at]
  refine kl_V (ci := 12) (o := 192) (T := TX12) (as := []) (rest := []) (X := (some (0, trn o), hup (lwX h 224 o).2 192 0 (trn o))) (oX12_thrown qt) gX12_thrown rfl (by decide) rfl (wsl_55 _ (List.mem_of_getElem? (i := 17) rfl)) rfl ⟨rfl, rfl⟩ hroom dL_law_668 rfl ?_
  refine z_iload dL_law_671 1 rfl (Or.inl rfl) ?_
  refine z_icmp_eq dL_law_673 (tgt := 678) (by decide) (fun _ => ?_) (fun hc => absurd rfl hc)
  refine z_iload dL_law_678 1 rfl (Or.inl rfl) ?_
  cases o with
  | none =>
    refine z_if_ne dL_law_680 (tgt := 695) (by decide) (fun _ => ?_) (fun hc => absurd hc (by decide))
    refine z_goto dL_law_695 (tgt := 1282) (by decide) ?_
    refine z_sub [2, 3, 4, 5, 6] (lv' := lvL i) rfl ?_
    exact kk _ _ _ hI9 (Nat.le_refl _) (Nat.le_refl _)
  | some v =>
    refine z_if_ne dL_law_680 (tgt := 695) (by decide) (fun hc => absurd rfl hc) (fun _ => ?_)
    refine z_aload_n dL_law_683 rfl 5 rfl (nl rfl) ?_
    refine z_iconst dL_law_684 (by decide) ?_
    have ga : aget (hup (lwX h 224 (some v)).2 192 0 (trn (some v))) 224 0 = some v := by
      rw [aget_in (by decide) (by rw [ll_224 (hI9.1)]; decide), hup_off (by decide)]
      exact congrArg some (show hup h 224 0 v 224 0 = v from hup_at)
    refine z_lald dL_law_685 ga ?_
    refine z_iload dL_law_686 0 rfl (Or.inl rfl) ?_
    refine z_i2l dL_law_688 ?_
    refine z_lcmp dL_law_689 ?_
    refine z_if_eq dL_law_690 (tgt := 695) (by decide) (fun _ => ?_) (fun hc => absurd lcm_r hc)
    refine z_goto dL_law_695 (tgt := 1282) (by decide) ?_
    refine z_sub [2, 3, 4, 5, 6] (lv' := lvL i) rfl ?_
    exact kk _ _ _ hI9 (Nat.le_refl _) (Nat.le_refl _)
set_option maxRecDepth 100000 in
set_option maxHeartbeats 4000000 in
theorem lcase_22 (htr : l.stackTraces = false) (hB : lcOk G A s b L xs) (hI : Inv h) (hi : 0 ≤ i ∧ i + 6 ≤ L) (hroom : cells + 1 ≤ 601024 ∧ slots + 6 ≤ 7293033) (kk : ∀ e cells9 slots9, Inv e → cells9 ≤ cells + 1 → slots9 ≤ slots + 6 → Wz p l e9 R s m args below meth c D G A H0 true n0 M_L_law Q cells9 slots9 1282 (lvL i) [] e) : Wz p l e9 R s m args below meth c D G A H0 true n0 M_L_law Q cells slots 797 (lvL i) [] h := by
  obtain ⟨hL, -, ⟨i1, i2, -, -⟩, -⟩ := id hI
  have hc := colV hL i1 (scr9 xs (i + 1)) (scr9 xs (i + 2)) (scr9 xs (i + 3))
  generalize ho : colO (h 194) (scr9 xs (i + 1)) (scr9 xs (i + 2)) (scr9 xs (i + 3)) = o at hc
  have hF := colF hL i1 hc
  have I1 : Inv (lwX h 224 o).2 := by
    cases o with
    | none => exact hI
    | some v => exact hI.out v
  have es : colO ((lwX h 224 o).2 194) (scr9 xs (i + 1)) (scr9 xs (i + 2)) (scr9 xs (i + 3)) = o := by
    cases o with
    | none => exact ho
    | some v =>
      refine Eq.trans ?_ ho
      show colO (hup h 224 0 v 194) (scr9 xs (i + 1)) (scr9 xs (i + 2)) (scr9 xs (i + 3)) = _
      rw [hup_off (by decide)]
  obtain ⟨jL, -, ⟨j1, j2, -, -⟩, -⟩ := id I1
  obtain ⟨o1, q1, q2⟩ := col_ok jL j1 (scr9 xs (i + 1)) (scr9 xs (i + 2)) (scr9 xs (i + 3))
  rw [colV jL j1 (scr9 xs (i + 1)) (scr9 xs (i + 2)) (scr9 xs (i + 3)), es] at q1
  obtain rfl := Option.some.inj q1
  have hI9 := I1.th (trn o)
  have l9 := ll_224 hL
  refine z_aload_n dL_law_797 rfl 1 rfl (nl rfl) ?_
  refine z_arg (j := 1) 0 4 hB hi (by decide) rfl rfl dL_law_798 dL_law_799 dL_law_801 dL_law_802 dL_law_803 rfl ?_
  refine z_arg (j := 2) 0 4 hB hi (by decide) rfl rfl dL_law_804 dL_law_805 dL_law_807 dL_law_808 dL_law_809 rfl ?_
  refine z_arg (j := 3) 0 4 hB hi (by decide) rfl rfl dL_law_810 dL_law_811 dL_law_813 dL_law_814 dL_law_815 rfl ?_
  refine z_aload_n dL_law_816 rfl 3 rfl (nl rfl) ?_
  refine z_callT (hh9 := [(0, 12, 15, 13)]) (as := [(21, 0), (0, scr9 xs (i + 1)), (0, scr9 xs (i + 2)), (0, scr9 xs (i + 3)), (51, 224)]) (rest := []) (X := lwX h 224 o) (oL_col htr hF (by rw [l9]; decide)) (wsl_58 _ (List.mem_of_getElem? (i := 6) rfl)) (wsl_58 _ (List.mem_of_getElem? (i := 7) rfl)) (wsl_54 _ (List.mem_of_getElem? (i := 18) rfl)) (wsl_58 _ (List.mem_of_getElem? (i := 8) rfl)) (by have h9 : yL_col.cls ≠ "java/lang/invoke/MethodHandle" ∧ yL_col.cls ≠ "java/lang/invoke/VarHandle" ∧ (parseMethodDescriptor yL_col.desc).map (fun d => d.parameters.length) = some 5 := (by decide +kernel); exact h9) ⟨nl rfl, nl rfl⟩ hroom (nl rfl) dL_law_817 rfl hB.2.2.2.2.2 ?_
  have eX : lwX h 224 o = (some (0, trn o), (lwX h 224 o).2) := by cases o <;> rfl
  have e1 : (lwX h 224 o).1.toList ++ ([] : List vV) = [(0, trn o)] := by cases o <;> rfl
  rw [e1]
  refine z_istore dL_law_820 (Or.inl rfl) (by decide) (lv' := (5, (0, trn o)) :: lvL i) rfl ?_
  refine z_aload_n dL_law_822 rfl 3 rfl (nl rfl) ?_
  refine z_arg (j := 1) 1 5 hB hi (by decide) rfl rfl dL_law_823 dL_law_824 dL_law_826 dL_law_827 dL_law_828 rfl ?_
  refine z_arg (j := 2) 1 5 hB hi (by decide) rfl rfl dL_law_829 dL_law_830 dL_law_832 dL_law_833 dL_law_834 rfl ?_
  refine z_arg (j := 3) 1 5 hB hi (by decide) rfl rfl dL_law_835 dL_law_836 dL_law_838 dL_law_839 dL_law_840 rfl ?_
  refine kl_V (ci := 12) (o := 192) (T := TX12) (as := [(0, scr9 xs (i + 1)), (0, scr9 xs (i + 2)), (0, scr9 xs (i + 3))]) (rest := []) (X := (some (0, ans o), hup (lwX h 224 o).2 192 0 (trn o))) (oX12_col q2) gX12_col rfl (by decide) rfl (wsl_58 _ (List.mem_of_getElem? (i := 21) rfl)) rfl ⟨rfl, rfl⟩ hroom dL_law_841 rfl ?_
  refine z_istore dL_law_844 (Or.inl rfl) (by decide) (lv' := (6, (0, ans o)) :: (5, (0, trn o)) :: lvL i) rfl ?_
  refine z_aload_n dL_law_846 rfl 4 rfl (nl rfl) ?_
  have qt : fX12_thrown (hup (lwX h 224 o).2 192 0 (trn o)) 192 = some (trn o) := by unfold fX12_thrown; rw [hup_at]
  refine kl_V (ci := 12) (o := 192) (T := TX12) (as := []) (rest := []) (X := (some (0, trn o), hup (lwX h 224 o).2 192 0 (trn o))) (oX12_thrown qt) gX12_thrown rfl (by decide) rfl (wsl_55 _ (List.mem_of_getElem? (i := 17) rfl)) rfl ⟨rfl, rfl⟩ hroom dL_law_847 rfl ?_
  refine z_iload dL_law_850 1 rfl (Or.inl rfl) ?_
  refine z_icmp_eq dL_law_852 (tgt := 857) (by decide) (fun _ => ?_) (fun hc => absurd rfl hc)
  refine z_iload dL_law_857 1 rfl (Or.inl rfl) ?_
  cases o with
  | none =>
    refine z_if_ne dL_law_859 (tgt := 874) (by decide) (fun _ => ?_) (fun hc => absurd hc (by decide))
    refine z_goto dL_law_874 (tgt := 1282) (by decide) ?_
    refine z_sub [2, 3, 4, 5, 6] (lv' := lvL i) rfl ?_
    exact kk _ _ _ hI9 (Nat.le_refl _) (Nat.le_refl _)
  | some v =>
    refine z_if_ne dL_law_859 (tgt := 874) (by decide) (fun hc => absurd rfl hc) (fun _ => ?_)
    refine z_aload_n dL_law_862 rfl 5 rfl (nl rfl) ?_
    refine z_iconst dL_law_863 (by decide) ?_
    have ga : aget (hup (lwX h 224 (some v)).2 192 0 (trn (some v))) 224 0 = some v := by
      rw [aget_in (by decide) (by rw [ll_224 (hI9.1)]; decide), hup_off (by decide)]
      exact congrArg some (show hup h 224 0 v 224 0 = v from hup_at)
    refine z_lald dL_law_864 ga ?_
    refine z_iload dL_law_865 0 rfl (Or.inl rfl) ?_
    refine z_i2l dL_law_867 ?_
    refine z_lcmp dL_law_868 ?_
    refine z_if_eq dL_law_869 (tgt := 874) (by decide) (fun _ => ?_) (fun hc => absurd lcm_r hc)
    refine z_goto dL_law_874 (tgt := 1282) (by decide) ?_
    refine z_sub [2, 3, 4, 5, 6] (lv' := lvL i) rfl ?_
    exact kk _ _ _ hI9 (Nat.le_refl _) (Nat.le_refl _)
set_option maxRecDepth 100000 in
set_option maxHeartbeats 4000000 in
theorem lcase_26 (htr : l.stackTraces = false) (hB : lcOk G A s b L xs) (hI : Inv h) (hi : 0 ≤ i ∧ i + 6 ≤ L) (hroom : cells + 1 ≤ 601024 ∧ slots + 6 ≤ 7293033) (kk : ∀ e cells9 slots9, Inv e → cells9 ≤ cells + 1 → slots9 ≤ slots + 6 → Wz p l e9 R s m args below meth c D G A H0 true n0 M_L_law Q cells9 slots9 1282 (lvL i) [] e) : Wz p l e9 R s m args below meth c D G A H0 true n0 M_L_law Q cells slots 952 (lvL i) [] h := by
  obtain ⟨hL, -, ⟨i1, i2, -, -⟩, -⟩ := id hI
  have hc := meanV hL i1 i2 (scr9 xs (i + 1)) (scr9 xs (i + 2)) (scr9 xs (i + 3))
  generalize ho : mnS h (scr9 xs (i + 1)) (scr9 xs (i + 2)) (scr9 xs (i + 3)) = o at hc
  have hF := meanF hL hc
  have I1 : Inv (lwX h 224 o).2 := by
    cases o with
    | none => exact hI
    | some v => exact hI.out v
  have es : mnS (lwX h 224 o).2 (scr9 xs (i + 1)) (scr9 xs (i + 2)) (scr9 xs (i + 3)) = o := by
    cases o with
    | none => exact ho
    | some v =>
      refine Eq.trans ?_ ho
      show mnS (hup h 224 0 v) (scr9 xs (i + 1)) (scr9 xs (i + 2)) (scr9 xs (i + 3)) = _
      unfold mnS smS smN
      rw [hup_off (show (194 : Int) ≠ 224 by decide), hup_off (show (14 : Int) ≠ 224 by decide), hup_off (show (16 : Int) ≠ 224 by decide), hup_off (show (17 : Int) ≠ 224 by decide)]
  obtain ⟨jL, -, ⟨j1, j2, -, -⟩, -⟩ := id I1
  obtain ⟨o1, q1, q2⟩ := mean_ok jL j1 j2 (scr9 xs (i + 1)) (scr9 xs (i + 2)) (scr9 xs (i + 3))
  rw [meanV jL j1 j2 (scr9 xs (i + 1)) (scr9 xs (i + 2)) (scr9 xs (i + 3)), es] at q1
  obtain rfl := Option.some.inj q1
  have hI9 := I1.th (trn o)
  have l9 := ll_224 hL
  refine z_aload_n dL_law_952 rfl 1 rfl (nl rfl) ?_
  refine z_arg (j := 1) 0 4 hB hi (by decide) rfl rfl dL_law_953 dL_law_954 dL_law_956 dL_law_957 dL_law_958 rfl ?_
  refine z_arg (j := 2) 0 4 hB hi (by decide) rfl rfl dL_law_959 dL_law_960 dL_law_962 dL_law_963 dL_law_964 rfl ?_
  refine z_arg (j := 3) 0 4 hB hi (by decide) rfl rfl dL_law_965 dL_law_966 dL_law_968 dL_law_969 dL_law_970 rfl ?_
  refine z_aload_n dL_law_971 rfl 3 rfl (nl rfl) ?_
  refine z_callT (hh9 := [(0, 12, 15, 13)]) (as := [(21, 0), (0, scr9 xs (i + 1)), (0, scr9 xs (i + 2)), (0, scr9 xs (i + 3)), (51, 224)]) (rest := []) (X := lwX h 224 o) (oL_mean htr hF (by rw [l9]; decide)) (wsl_60 _ (List.mem_of_getElem? (i := 16) rfl)) (wsl_60 _ (List.mem_of_getElem? (i := 17) rfl)) (wsl_54 _ (List.mem_of_getElem? (i := 18) rfl)) (wsl_60 _ (List.mem_of_getElem? (i := 18) rfl)) (by have h9 : yL_mean.cls ≠ "java/lang/invoke/MethodHandle" ∧ yL_mean.cls ≠ "java/lang/invoke/VarHandle" ∧ (parseMethodDescriptor yL_mean.desc).map (fun d => d.parameters.length) = some 5 := (by decide +kernel); exact h9) ⟨nl rfl, nl rfl⟩ hroom (nl rfl) dL_law_972 rfl hB.2.2.2.2.2 ?_
  have eX : lwX h 224 o = (some (0, trn o), (lwX h 224 o).2) := by cases o <;> rfl
  have e1 : (lwX h 224 o).1.toList ++ ([] : List vV) = [(0, trn o)] := by cases o <;> rfl
  rw [e1]
  refine z_istore dL_law_975 (Or.inl rfl) (by decide) (lv' := (5, (0, trn o)) :: lvL i) rfl ?_
  refine z_aload_n dL_law_977 rfl 3 rfl (nl rfl) ?_
  refine z_arg (j := 1) 1 5 hB hi (by decide) rfl rfl dL_law_978 dL_law_979 dL_law_981 dL_law_982 dL_law_983 rfl ?_
  refine z_arg (j := 2) 1 5 hB hi (by decide) rfl rfl dL_law_984 dL_law_985 dL_law_987 dL_law_988 dL_law_989 rfl ?_
  refine z_arg (j := 3) 1 5 hB hi (by decide) rfl rfl dL_law_990 dL_law_991 dL_law_993 dL_law_994 dL_law_995 rfl ?_
  refine kl_V (ci := 12) (o := 192) (T := TX12) (as := [(0, scr9 xs (i + 1)), (0, scr9 xs (i + 2)), (0, scr9 xs (i + 3))]) (rest := []) (X := (some (0, ans o), hup (lwX h 224 o).2 192 0 (trn o))) (oX12_mean q2) gX12_mean rfl (by decide) rfl (wsl_61 _ (List.mem_of_getElem? (i := 10) rfl)) rfl ⟨rfl, rfl⟩ hroom dL_law_996 rfl ?_
  refine z_istore dL_law_999 (Or.inl rfl) (by decide) (lv' := (6, (0, ans o)) :: (5, (0, trn o)) :: lvL i) rfl ?_
  refine z_aload_n dL_law_1001 rfl 4 rfl (nl rfl) ?_
  have qt : fX12_thrown (hup (lwX h 224 o).2 192 0 (trn o)) 192 = some (trn o) := by unfold fX12_thrown; rw [hup_at]
  refine kl_V (ci := 12) (o := 192) (T := TX12) (as := []) (rest := []) (X := (some (0, trn o), hup (lwX h 224 o).2 192 0 (trn o))) (oX12_thrown qt) gX12_thrown rfl (by decide) rfl (wsl_55 _ (List.mem_of_getElem? (i := 17) rfl)) rfl ⟨rfl, rfl⟩ hroom dL_law_1002 rfl ?_
  refine z_iload dL_law_1005 1 rfl (Or.inl rfl) ?_
  refine z_icmp_eq dL_law_1007 (tgt := 1012) (by decide) (fun _ => ?_) (fun hc => absurd rfl hc)
  refine z_iload dL_law_1012 1 rfl (Or.inl rfl) ?_
  cases o with
  | none =>
    refine z_if_ne dL_law_1014 (tgt := 1029) (by decide) (fun _ => ?_) (fun hc => absurd hc (by decide))
    refine z_goto dL_law_1029 (tgt := 1282) (by decide) ?_
    refine z_sub [2, 3, 4, 5, 6] (lv' := lvL i) rfl ?_
    exact kk _ _ _ hI9 (Nat.le_refl _) (Nat.le_refl _)
  | some v =>
    refine z_if_ne dL_law_1014 (tgt := 1029) (by decide) (fun hc => absurd rfl hc) (fun _ => ?_)
    refine z_aload_n dL_law_1017 rfl 5 rfl (nl rfl) ?_
    refine z_iconst dL_law_1018 (by decide) ?_
    have ga : aget (hup (lwX h 224 (some v)).2 192 0 (trn (some v))) 224 0 = some v := by
      rw [aget_in (by decide) (by rw [ll_224 (hI9.1)]; decide), hup_off (by decide)]
      exact congrArg some (show hup h 224 0 v 224 0 = v from hup_at)
    refine z_lald dL_law_1019 ga ?_
    refine z_iload dL_law_1020 0 rfl (Or.inl rfl) ?_
    refine z_i2l dL_law_1022 ?_
    refine z_lcmp dL_law_1023 ?_
    refine z_if_eq dL_law_1024 (tgt := 1029) (by decide) (fun _ => ?_) (fun hc => absurd lcm_r hc)
    refine z_goto dL_law_1029 (tgt := 1282) (by decide) ?_
    refine z_sub [2, 3, 4, 5, 6] (lv' := lvL i) rfl ?_
    exact kk _ _ _ hI9 (Nat.le_refl _) (Nat.le_refl _)
end LAWX
