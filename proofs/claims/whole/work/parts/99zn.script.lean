/-! THE LAW'S SCRIPT, AND A CALL OF WHAT CATCHES -/
section SCR
variable {p : Program} {l : Launch} {e : Env} {R : Room} {s : State} {m : MethodId} {args : Array Value} {below : List Frame} {meth : Method} {c : Code} {D : va_G} {G : gG} {A : Nat → Prop} {H0 : Heap} {sg : Bool} {n0 : Int} {M : mM} {Q : State → Prop} {cells slots : Nat} {pc : Nat} {lv : List (Nat × vV)} {st : List vV} {h : hH} {b L : Nat} {xs : Nat → Int32}
theorem cv_scr {G : gG} (hG : G.1 1005 = b) : cv G.1 (95, 1005) = .ref b := by
  rw [cv_refn G.1 (by decide) (by decide)]
  exact congrArg Value.ref hG
theorem z_slen (hX : va_X b L xs s s.heap) (hbl : b < s.heap.size) (hbA : ¬ A b) (hG : G.1 1005 = b) (hL : L ≤ 3072) (hd : decode M.1 pc = .ok (.arraylength, 1)) (kk : Wz p l e R s m args below meth c D G A H0 sg n0 M Q cells slots (pc + 1) lv ((0, (L : Int)) :: st) h) : Wz p l e R s m args below meth c D G A H0 sg n0 M Q cells slots pc lv ((95, 1005) :: st) h := by
  intro hC hh hn hlv hst H locs ls hw hS hls
  have hs0 := hC.2.2.2.2.2.2.2.2.2.2.2.2.1
  have k := kk hC hh hn hlv (stc (v := (0, (L : Int))) ((R32_iff _).mpr ⟨by omega, by omega⟩) (fun q hq => hst q (List.mem_cons_of_mem _ hq))) H locs ls hw hS hls
  rw [List.map_cons, cv_scr hG]
  subst hs0
  exact va_slen hC.1 hC.2.1 hX hbl hbA hS hd k
theorem z_sld {i : Int} (hX : va_X b L xs s s.heap) (hbl : b < s.heap.size) (hbA : ¬ A b) (hG : G.1 1005 = b) (hL : L ≤ 3072) (i0 : 0 ≤ i) (i1 : i < L) (hd : decode M.1 pc = .ok (.iaload, 1)) (kk : Wz p l e R s m args below meth c D G A H0 sg n0 M Q cells slots (pc + 1) lv ((0, (xs i.toNat).toInt) :: st) h) : Wz p l e R s m args below meth c D G A H0 sg n0 M Q cells slots pc lv ((0, i) :: (95, 1005) :: st) h := by
  intro hC hh hn hlv hst H locs ls hw hS hls
  have hs0 := hC.2.2.2.2.2.2.2.2.2.2.2.2.1
  have hx9 : R32 (xs i.toNat).toInt := congrArg Int32.toInt (Int32.ofInt_toInt _)
  have k := kk hC hh hn hlv (stc (v := (0, (xs i.toNat).toInt)) hx9 (fun q hq => hst q (List.mem_cons_of_mem _ (List.mem_cons_of_mem _ hq)))) H locs ls hw hS hls
  rw [List.map_cons, List.map_cons, cv_scr hG]
  subst hs0
  have hi : (Int32.ofInt i).toInt = i := (show R32 i from hst _ List.mem_cons_self).toI
  have e1 : (Int32.ofInt i).toNatClampNeg = i.toNat := by
    show (Int32.ofInt i).toInt.toNat = i.toNat
    rw [hi]
  refine va_sld (i := Int32.ofInt i) hC.1 hC.2.1 hX hbl hbA hS (vp_in_iff.mpr (by rw [hi]; exact ⟨i0, i1⟩)) hd ?_
  rw [e1]
  have e2 : cv G.1 (0, (xs i.toNat).toInt) = .int (xs i.toNat) := congrArg Value.int (Int32.ofInt_toInt _)
  rw [List.map_cons, e2] at k
  exact k
theorem z_callT {i : Nat} {y : MethodName} {My : mM} {hh9 : List (Nat × Nat × Nat × Nat)} {as rest : List vV} {X : Option vV × hH} (hM : CtT l D G sg y My hh9 as h X)
    (w1 : Cond.methodLink M.2.2.1 i y ∈ wsL_law) (w2 : Cond.static y ∈ wsL_law) (w4 : Cond.initialized y.cls ∈ wsL_law) (w5 : Cond.codeWith y My.1 My.2.1 My.2.2.2.1 hh9 ∈ wsL_law)
    (hd9 : y.cls ≠ "java/lang/invoke/MethodHandle" ∧ y.cls ≠ "java/lang/invoke/VarHandle" ∧ (parseMethodDescriptor y.desc).map (fun d => d.parameters.length) = some as.length)
    (hR : My.2.2.2.2.2.1 + 1 ≤ M.2.2.2.2.2.1 ∧ 8 + (My.2.1 + 11) + My.2.2.2.2.2.2.1 ≤ M.2.2.2.2.2.2.1) (hcs : cells + My.2.2.2.2.2.2.2.1 ≤ M.2.2.2.2.2.2.2.1 ∧ slots + My.2.2.2.2.2.2.2.2 ≤ M.2.2.2.2.2.2.2.2) (h8 : szA rest ≤ 8)
    (hd : decode M.1 pc = .ok (.invokestatic i, 3)) (hrev : as.reverse ++ rest = st) (hzs : zsOk G s s.heap)
    (kk : Wz p l e R s m args below meth c D G A H0 sg n0 M Q (cells + My.2.2.2.2.2.2.2.1) (slots + My.2.2.2.2.2.2.2.2) (pc + 3) lv (X.1.toList ++ rest) X.2) : Wz p l e R s m args below meth c D G A H0 sg n0 M Q cells slots pc lv st h := by
  subst hrev
  intro hC hh hn hlv hst H locs ls hw hS hls
  have hts := hC.2.2.2.2.2.2.2.2.1
  have hRR := hC.2.2.2.2.2.2.1
  have hK := hC.2.2.2.2.2.2.2.2.2.2.1
  have hs0 := hC.2.2.2.2.2.2.2.2.2.2.2.2.1
  have hM9 := hM hh (fun v hv => hst v (List.mem_append_left _ (List.mem_reverse.mpr hv))) H.size
  have hG9 : GoodIn wsL_law (va_wsS M.2.2.1 i y (wsT y My hh9)) := fun w hw9 => by
    have hm : w ∈ wsL_law := by
      unfold va_wsS wsT at hw9
      simp only [List.mem_append, List.mem_cons, List.not_mem_nil, or_false] at hw9
      rcases hw9 with (e9 | e9 | e9) | e9 | e9
      · subst e9; first | exact w1 | exact w2 | exact w4
      · subst e9; first | exact w1 | exact w2 | exact w4
      · subst e9; first | exact w1 | exact w2 | exact w4
      · subst e9; exact w5
      · exact e9
    exact ⟨hm, good_ws hm⟩
  refine zcall_go (av := (as.map (cv G.1)).toArray) (as := as) (rest := rest) hC hlv (fun q hq => hst q (List.mem_append_right _ hq)) hn hw hS hls ?_ kk
  exact vx_runSW (y := y) (own := M.2.2.1) (index := i) (bytes := My.1) (maxL := My.2.1) (ret := My.2.2.2.1) (hh := hh9) (ws := wsT y My hh9) (rm := rmM My) (Ts := wsL_law) (cc := M.1) (nL := M.2.1) (n := as.length) (As := as.map (cv G.1)) ⟨hC.1, hC.2.1, hC.2.2.1, hC.2.2.2.1, hts⟩ hM9
    (vx_cwSW as.length hts hG9 rfl rfl rfl hd9 (by rw [hRR]; exact hR))
    ⟨pcX_blind, fun U hU hW => ⟨rfl, ⟨by rw [hU], by rw [hU]; exact hw.1, va_K.moved hW.alike hK, hw.2.weaken (fun _ _ _ _ => trivial), hC.2.2.2.2.2.2.2.2.2.1.warm hW, by rw [hU]; exact (hs0 ▸ hC.2.2.2.2.2.2.2.2.2.2.2.2.2.2 : skOk G s H0).go hC.2.2.2.2.2.2.2.2.2.2.2.2.2.1 hS hW⟩, by rw [hU]; exact (hs0 ▸ hzs : zsOk G s H0).go hC.2.2.2.2.2.2.2.2.2.2.2.2.2.1 hS hW⟩⟩ rfl (by simp) hls.1 (by simp [F0, List.map_append, List.map_reverse]) (lv_room (by rw [cat_sum]; exact h8)) hd (by rw [hRR]; exact hcs)
end SCR
