/-! THE LAW'S LOOP -/
section LOOP9
variable {p : Program} {l : Launch} {e9 : Env} {R : Room} {s : State} {m : MethodId} {args : Array Value} {below : List Frame} {meth : Method} {c : Code} {D : va_G} {G : gG} {A : Nat → Prop} {H0 : Heap} {n0 : Int} {Q : State → Prop} {cells slots : Nat} {h : hH} {b L : Nat} {xs : Nat → Int32} {i : Int}
theorem ctl37 {k : Int} (h0 : ¬ (k < 0 ∨ 36 < k)) : k = 0 ∨ k = 1 ∨ k = 2 ∨ k = 3 ∨ k = 4 ∨ k = 5 ∨ k = 6 ∨ k = 7 ∨ k = 8 ∨ k = 9 ∨ k = 10 ∨ k = 11 ∨ k = 12 ∨ k = 13 ∨ k = 14 ∨ k = 15 ∨ k = 16 ∨ k = 17 ∨ k = 18 ∨ k = 19 ∨ k = 20 ∨ k = 21 ∨ k = 22 ∨ k = 23 ∨ k = 24 ∨ k = 25 ∨ k = 26 ∨ k = 27 ∨ k = 28 ∨ k = 29 ∨ k = 30 ∨ k = 31 ∨ k = 32 ∨ k = 33 ∨ k = 34 ∨ k = 35 ∨ k = 36 := by omega
set_option maxRecDepth 100000 in
set_option maxHeartbeats 4000000 in
theorem z_turn (htr : l.stackTraces = false) (hB : lcOk G A s b L xs) (hI : Inv h) (hi : 0 ≤ i ∧ i ≤ 4000) (kz : Wz p l e9 R s m args below meth c D G A H0 true n0 M_L_law Q cells slots 1288 (lvL i) [] h) (kk : i + 6 ≤ L → cells + 1 ≤ 601024 ∧ slots + 6 ≤ 7293033 ∧ ∀ e cells9 slots9, Inv e → cells9 ≤ cells + 1 → slots9 ≤ slots + 6 → Wz p l e9 R s m args below meth c D G A H0 true n0 M_L_law Q cells9 slots9 23 (lvL (i + 6)) [] e) : Wz p l e9 R s m args below meth c D G A H0 true n0 M_L_law Q cells slots 23 (lvL i) [] h := by
  obtain ⟨b1, b2, b3, b4, b5, b6⟩ := id hB
  refine z_iload dL_law_23 4 rfl (Or.inl rfl) ?_
  refine z_aload_n dL_law_25 rfl 0 rfl (nl rfl) ?_
  refine z_slen b1 b2 b3 b4 b5 dL_law_26 ?_
  refine z_bipush dL_law_27 (by decide) (by decide) ?_
  refine z_isub dL_law_29 ?_
  rw [w32_id (x := (L : Int) - 6) (by omega) (by omega)]
  refine z_icmp_gt dL_law_30 (tgt := 1288) (by decide) (fun _ => kz) (fun hc => ?_)
  have hi6 : 0 ≤ i ∧ i + 6 ≤ L := ⟨hi.1, by omega⟩
  refine z_aload_n dL_law_33 rfl 0 rfl (nl rfl) ?_
  refine z_iload dL_law_34 4 rfl (Or.inl rfl) ?_
  refine z_sld b1 b2 b3 b4 b5 hi.1 (by omega) dL_law_36 ?_
  refine z_bipush dL_law_37 (by decide) (by decide) ?_
  refine z_iand dL_law_39 ?_
  generalize iadD (xs i.toNat).toInt 63 = k
  obtain ⟨r1, r2, k1⟩ := kk hi6.2
  have K : ∀ e cells9 slots9, Inv e → cells9 ≤ cells + 1 → slots9 ≤ slots + 6 → Wz p l e9 R s m args below meth c D G A H0 true n0 M_L_law Q cells9 slots9 1282 (lvL i) [] e := fun e cells9 slots9 q1 q2 q3 => by
    refine z_iinc dL_law_1282 (k := 4) rfl (by decide) (lv' := [(4, (0, w32 (i + 6))), (0, (95, 1005)), (1, (21, 0)), (2, (22, 192)), (3, (51, 224))]) rfl ?_
    rw [w32_id (x := i + 6) (by omega) (by omega)]
    refine z_goto dL_law_1285 (tgt := 23) (by decide) ?_
    refine z_sub [1, 2, 3, 4, 0] (lv' := lvL (i + 6)) rfl ?_
    exact k1 e _ _ q1 q2 q3
  by_cases h0 : k < 0 ∨ 36 < k
  · refine z_tableOut dL_law_40 h0 (tgt := 1282) (by decide) ?_
    exact K h _ _ hI (Nat.le_succ _) (Nat.le_add_right _ _)
  · rcases ctl37 h0 with rfl | rfl | rfl | rfl | rfl | rfl | rfl | rfl | rfl | rfl | rfl | rfl | rfl | rfl | rfl | rfl | rfl | rfl | rfl | rfl | rfl | rfl | rfl | rfl | rfl | rfl | rfl | rfl | rfl | rfl | rfl | rfl | rfl | rfl | rfl | rfl | rfl
    · exact z_tableIn dL_law_40 (by decide) (by decide) (off := 164) rfl (tgt := 204) (by decide) (lcase_0 hB hI hi6 ⟨r1, r2⟩ K)
    · exact z_tableIn dL_law_40 (by decide) (by decide) (off := 237) rfl (tgt := 277) (by decide) (lcase_1 hB hI hi6 ⟨r1, r2⟩ K)
    · exact z_tableIn dL_law_40 (by decide) (by decide) (off := 262) rfl (tgt := 302) (by decide) (lcase_2 hB hI hi6 ⟨r1, r2⟩ K)
    · exact z_tableIn dL_law_40 (by decide) (by decide) (off := 275) rfl (tgt := 315) (by decide) (lcase_3 hB hI hi6 ⟨r1, r2⟩ K)
    · exact z_tableIn dL_law_40 (by decide) (by decide) (off := 288) rfl (tgt := 328) (by decide) (lcase_4 hB hI hi6 ⟨r1, r2⟩ K)
    · exact z_tableIn dL_law_40 (by decide) (by decide) (off := 301) rfl (tgt := 341) (by decide) (lcase_5 hB hI hi6 ⟨r1, r2⟩ K)
    · exact z_tableIn dL_law_40 (by decide) (by decide) (off := 314) rfl (tgt := 354) (by decide) (lcase_6 hB hI hi6 ⟨r1, r2⟩ K)
    · exact z_tableIn dL_law_40 (by decide) (by decide) (off := 339) rfl (tgt := 379) (by decide) (lcase_7 hB hI hi6 ⟨r1, r2⟩ K)
    · exact z_tableIn dL_law_40 (by decide) (by decide) (off := 364) rfl (tgt := 404) (by decide) (lcase_8 hB hI hi6 ⟨r1, r2⟩ K)
    · exact z_tableIn dL_law_40 (by decide) (by decide) (off := 389) rfl (tgt := 429) (by decide) (lcase_9 hB hI hi6 ⟨r1, r2⟩ K)
    · exact z_tableIn dL_law_40 (by decide) (by decide) (off := 426) rfl (tgt := 466) (by decide) (lcase_10 hB hI hi6 ⟨r1, r2⟩ K)
    · exact z_tableIn dL_law_40 (by decide) (by decide) (off := 439) rfl (tgt := 479) (by decide) (lcase_11 hB hI hi6 ⟨r1, r2⟩ K)
    · exact z_tableIn dL_law_40 (by decide) (by decide) (off := 452) rfl (tgt := 492) (by decide) (lcase_12 hB hI hi6 ⟨r1, r2⟩ K)
    · exact z_tableIn dL_law_40 (by decide) (by decide) (off := 465) rfl (tgt := 505) (by decide) (lcase_13 hB hI hi6 ⟨r1, r2⟩ K)
    · exact z_tableIn dL_law_40 (by decide) (by decide) (off := 478) rfl (tgt := 518) (by decide) (lcase_14 hB hI hi6 ⟨r1, r2⟩ K)
    · exact z_tableIn dL_law_40 (by decide) (by decide) (off := 503) rfl (tgt := 543) (by decide) (lcase_15 hB hI hi6 ⟨r1, r2⟩ K)
    · exact z_tableIn dL_law_40 (by decide) (by decide) (off := 528) rfl (tgt := 568) (by decide) (lcase_16 hB hI hi6 ⟨r1, r2⟩ K)
    · exact z_tableIn dL_law_40 (by decide) (by decide) (off := 565) rfl (tgt := 605) (by decide) (lcase_17 hB hI hi6 ⟨r1, r2⟩ K)
    · exact z_tableIn dL_law_40 (by decide) (by decide) (off := 590) rfl (tgt := 630) (by decide) (lcase_18 htr hB hI hi6 ⟨r1, r2⟩ K)
    · exact z_tableIn dL_law_40 (by decide) (by decide) (off := 658) rfl (tgt := 698) (by decide) (lcase_19 hB hI hi6 ⟨r1, r2⟩ K)
    · exact z_tableIn dL_law_40 (by decide) (by decide) (off := 695) rfl (tgt := 735) (by decide) (lcase_20 hB hI hi6 ⟨r1, r2⟩ K)
    · exact z_tableIn dL_law_40 (by decide) (by decide) (off := 720) rfl (tgt := 760) (by decide) (lcase_21 hB hI hi6 ⟨r1, r2⟩ K)
    · exact z_tableIn dL_law_40 (by decide) (by decide) (off := 757) rfl (tgt := 797) (by decide) (lcase_22 htr hB hI hi6 ⟨r1, r2⟩ K)
    · exact z_tableIn dL_law_40 (by decide) (by decide) (off := 837) rfl (tgt := 877) (by decide) (lcase_23 hB hI hi6 ⟨r1, r2⟩ K)
    · exact z_tableIn dL_law_40 (by decide) (by decide) (off := 874) rfl (tgt := 914) (by decide) (lcase_24 hB hI hi6 ⟨r1, r2⟩ K)
    · exact z_tableIn dL_law_40 (by decide) (by decide) (off := 887) rfl (tgt := 927) (by decide) (lcase_25 hB hI hi6 ⟨r1, r2⟩ K)
    · exact z_tableIn dL_law_40 (by decide) (by decide) (off := 912) rfl (tgt := 952) (by decide) (lcase_26 htr hB hI hi6 ⟨r1, r2⟩ K)
    · exact z_tableIn dL_law_40 (by decide) (by decide) (off := 992) rfl (tgt := 1032) (by decide) (lcase_27 hB hI hi6 ⟨r1, r2⟩ K)
    · exact z_tableIn dL_law_40 (by decide) (by decide) (off := 1017) rfl (tgt := 1057) (by decide) (lcase_28 hB hI hi6 ⟨r1, r2⟩ K)
    · exact z_tableIn dL_law_40 (by decide) (by decide) (off := 1042) rfl (tgt := 1082) (by decide) (lcase_29 hB hI hi6 ⟨r1, r2⟩ K)
    · exact z_tableIn dL_law_40 (by decide) (by decide) (off := 1079) rfl (tgt := 1119) (by decide) (lcase_30 hB hI hi6 ⟨r1, r2⟩ K)
    · exact z_tableIn dL_law_40 (by decide) (by decide) (off := 1104) rfl (tgt := 1144) (by decide) (lcase_31 hB hI hi6 ⟨r1, r2⟩ K)
    · exact z_tableIn dL_law_40 (by decide) (by decide) (off := 1129) rfl (tgt := 1169) (by decide) (lcase_32 hB hI hi6 ⟨r1, r2⟩ K)
    · exact z_tableIn dL_law_40 (by decide) (by decide) (off := 1142) rfl (tgt := 1182) (by decide) (lcase_33 hB hI hi6 ⟨r1, r2⟩ K)
    · exact z_tableIn dL_law_40 (by decide) (by decide) (off := 1167) rfl (tgt := 1207) (by decide) (lcase_34 hB hI hi6 ⟨r1, r2⟩ K)
    · exact z_tableIn dL_law_40 (by decide) (by decide) (off := 1192) rfl (tgt := 1232) (by decide) (lcase_35 hB hI hi6 ⟨r1, r2⟩ K)
    · exact z_tableIn dL_law_40 (by decide) (by decide) (off := 1217) rfl (tgt := 1257) (by decide) (lcase_36 hB hI hi6 ⟨r1, r2⟩ K)
theorem z_loop (htr : l.stackTraces = false) (hB : lcOk G A s b L xs) (Z : ∀ e cells9 slots9 i9, Inv e → cells9 ≤ 601024 → slots9 ≤ 7293033 → Wz p l e9 R s m args below meth c D G A H0 true n0 M_L_law Q cells9 slots9 1288 (lvL i9) [] e) : ∀ (n : Nat) (i : Int) (cells slots : Nat) (h : hH), Inv h → 0 ≤ i → i ≤ L → (L : Int) - i < 6 * (n : Int) + 6 → cells + n ≤ 601024 → slots + 6 * n ≤ 7293033 → Wz p l e9 R s m args below meth c D G A H0 true n0 M_L_law Q cells slots 23 (lvL i) [] h := by
  obtain ⟨-, -, -, -, b5, -⟩ := id hB
  intro n
  induction n with
  | zero =>
    intro i cells slots h hI i0 i1 i2 r1 r2
    refine z_turn htr hB hI ⟨i0, by omega⟩ (Z h _ _ i hI (by omega) (by omega)) (fun h6 => ?_)
    omega
  | succ n ih =>
    intro i cells slots h hI i0 i1 i2 r1 r2
    refine z_turn htr hB hI ⟨i0, by omega⟩ (Z h _ _ i hI (by omega) (by omega)) (fun h6 => ⟨by omega, by omega, fun e cells9 slots9 q1 q2 q3 => ?_⟩)
    exact ih (i + 6) cells9 slots9 e q1 (by omega) h6 (by omega) (by omega) (by omega)
end LOOP9
