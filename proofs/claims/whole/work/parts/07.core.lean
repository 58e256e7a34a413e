/-! CONTRACTS -/
def rmM (M : mM) : Room := { frames := M.2.2.2.2.2.1, cells := M.2.2.2.2.2.2.2.1, slots := M.2.2.2.2.2.2.2.2, locals := M.2.2.2.2.2.2.1 }
def wsM (y : MethodName) (M : mM) : List Cond := .code y M.1 M.2.1 M.2.2.2.1 :: wsL_law
def pcM (D : va_G) (G : gG) (h : hH) (sz : Nat) (U : State) : Prop := U.heap.size = sz ∧ va_P D vwCl (wld G h) U.heap ∧ va_K D vwCl (tyG G) U ∧ va_D (fun _ => True) (wld G h) ∧ nsOk U ∧ skOk G U U.heap
/-- method y, from the heap h with the arguments as, comes to x -/
def Ctr (l : Launch) (D : va_G) (G : gG) (sg : Bool) (y : MethodName) (M : mM) (as : List vV) (h : hH) (x : Option vV × hH) : Prop :=
  hOk sg h → (∀ v ∈ as, hT (nn h) v.1 v.2) → ∀ sz : Nat, Met l y (wsM y M) (rmM M) (va_Pc (as.map (cv G.1)) (pcM D G h sz)) (qX D G (va_A (wld G h) sz) sg (nn h) x) M.2.2.2.2.2.2.2.1 M.2.2.2.2.2.2.2.2 (va_A (wld G h) sz)
def avA : Nat → List vV → List (Nat × vV)
  | _, [] => []
  | i, v :: vs => (i, v) :: avA (if v.1 == 1 then i + 2 else i + 1) vs
theorem avA_eq (ad : Nat → Nat) : ∀ (as : List vV) (i : Nat), lv_args i (as.map (cv ad)) = (avA i as).map (fun q => (q.1, cv ad q.2))
  | [], _ => rfl
  | v :: vs, i => by
    simp only [List.map_cons, lv_args, avA]
    rw [avA_eq ad vs]
    congr 2
    have := cv_cat ad v
    by_cases z : v.1 = 1
    · have h2 : (cv ad v).category = 2 := by simpa [z] using this
      simp [z, h2]
    · have h2 : ¬ (cv ad v).category = 2 := by rw [cv_cat1 ad z]; decide
      simp [z, h2]
theorem avA_in : ∀ (as : List vV) (i : Nat), ∀ q ∈ avA i as, q.2 ∈ as
  | [], _ => fun _ h => absurd h List.not_mem_nil
  | v :: vs, i => fun q h => by
    rcases List.mem_cons.mp h with e | h
    · rw [e]; exact List.mem_cons_self
    · exact List.mem_cons_of_mem _ (avA_in vs _ q h)
def szA (as : List vV) : Nat := (as.map (fun v => if v.1 == 1 then 2 else 1)).sum
theorem szA_eq (ad : Nat → Nat) : ∀ (as : List vV), (lg_sl (as.map (cv ad))).length = szA as
  | [] => rfl
  | v :: vs => by
    have ih := szA_eq ad vs
    have := cv_cat ad v
    simp only [lg_sl, szA, List.map_cons, List.flatMap_cons, List.length_append, List.sum_cons] at ih ⊢
    rw [ih]
    congr 1
    by_cases z : v.1 = 1
    · have h2 : (cv ad v).category = 2 := by simpa [z] using this
      simp [z, h2]
    · have h2 : ¬ (cv ad v).category = 2 := by rw [cv_cat1 ad z]; decide
      simp [z, h2]
theorem wsL_good : wsL_law.all goodWord = true := by
  unfold wsL_law
  rw [List.all_append, Bool.and_eq_true]
  exact ⟨by decide +kernel, by simp⟩
theorem good_ws {w : Cond} (hw : w ∈ wsL_law) : (w.onTables && w.keeps) = true ∨ ∃ ty, w = .arrayClass ty := good_of_word (List.all_eq_true.mp wsL_good w hw)
theorem Ctr_of {l : Launch} {D : va_G} {G : gG} {sg : Bool} {y : MethodName} {M : mM} {as : List vV} {h : hH} {x : Option vV × hH} (hy : plainName y.cls = true) (hown : M.2.2.1 = y.cls) (hin : M.2.2.2.2.1 = true → y.name = "<init>") (hsz : szA as ≤ M.2.1)
    (body : ∀ {p : Program} {e : Env} {R : Room} {s : State} {m : MethodId} {args : Array Value} {below : List Frame} {meth : Method} {c : Code} {A : Nat → Prop} {H0 : Heap}, Wq p l e R s m args below meth c D G A H0 sg (nn h) M x 0 0 0 (avA 0 as) [] h) : Ctr l D G sg y M as h x := by
  intro hh has sz
  refine Met.ofW (cc := M.1) (maxL := M.2.1) (ret := M.2.2.2.1) hy rfl ?_
  intro p e s m args below meth c s₁ B hml hv
  obtain ⟨rfl, hsz', hP, hK, hD0, hns, hsk⟩ := hv
  have hts := atoms_spec (ws := wsM y M) B.pre
  have hown' : s.vm.findClass y.cls = some m.cls := findClass_of_methodNamed B.named
  subst hsz'
  rw [lg_entry_eq]
  have hl := lv_entry (as.map (cv G.1)) (n := M.2.1) (by rw [szA_eq]; exact hsz)
  rw [avA_eq] at hl
  exact body (e := e) (R := (headSpec (wsM y M) (rmM M)).room) (H0 := s.heap) ⟨B.exec, B.bytes, hml, by rw [hown]; exact hown', B.returns, fun z => (name_of_methodNamed B.named B.method).1.trans (hin z), rfl, B.notSynchronized, fun w hw => hts w (List.mem_cons_of_mem _ hw), hns, hK, fun q hq => Or.inr hq, rfl, fun q hq => hq.imp (fun z => by obtain ⟨k, e9, hk⟩ := z; have hk2 := wld_mem hk; exact ⟨k, by have := hh.2.1; omega, (Prod.mk.inj hk2.2).1⟩) id, hsk⟩ hh (Int.le_refl _) (fun q hq => has _ (avA_in as 0 q hq)) (fun _ h => absurd h List.not_mem_nil) s.heap [] _ ⟨hP, hD0.self⟩ va_S.rf hl
section CORE6
variable {p : Program} {l : Launch} {e : Env} {R : Room} {s : State} {m : MethodId} {args : Array Value} {below : List Frame} {meth : Method} {c : Code} {D : va_G} {G : gG} {A : Nat → Prop} {H0 : Heap} {sg : Bool} {n0 : Int} {M : mM} {x : Option vV × hH} {cells slots : Nat} {pc : Nat} {lv : List (Nat × vV)} {st : List vV} {h : hH}
theorem q_ret {Z : Option vV} {H : Heap} {locs : List Loc} (hx : x = (Z, h)) (hC : cxOk p R s m args meth c D G A H0 M) (hh : hOk sg h) (hn : n0 ≤ nn h) (hz : ∀ v ∈ Z, hT (nn h) v.1 v.2) (hw : wOk D G A h H) (hS : va_S A H0 H locs) (t : State) (ht : t.heap = H) : qX D G A sg n0 x args s (.returned (Z.map (cv G.1))) t := by
  subst hx
  have hs0 := hC.2.2.2.2.2.2.2.2.2.2.2.2.1
  subst hs0
  exact ⟨⟨rfl, by rw [ht]; exact hw, hh, hn, hz⟩, hS.F ht⟩
end CORE6
section CORE7
variable {p : Program} {l : Launch} {e : Env} {R : Room} {s : State} {m : MethodId} {args : Array Value} {below : List Frame} {meth : Method} {c : Code} {D : va_G} {G : gG} {A : Nat → Prop} {H0 : Heap} {sg : Bool} {n0 : Int} {M : mM} {x : Option vV × hH} {cells slots : Nat} {pc : Nat} {lv : List (Nat × vV)} {st : List vV} {h : hH}
theorem pc_blind {as : List Value} {sz : Nat} : FrameBlind (va_Pc as (pcM D G h sz)) := by
  intro a U g mk q
  obtain ⟨q0, q1, qP, qK, qD, qN, qS⟩ := q
  exact ⟨q0, q1, qP, va_K.moved (u := U) (U := U.calling g mk a) (Vm.Alike.refl U.vm) qK, qD, nsOk.same (u := U) (U := U.calling g mk a) rfl qN, skOk.same (u := U) (U := U.calling g mk a) rfl rfl qS⟩
theorem cat_sum (ad : Nat → Nat) : ∀ (st : List vV), ((st.map (cv ad)).map fun v => v.category).sum = szA st
  | [] => rfl
  | v :: vs => by
    have ih := cat_sum ad vs
    simp only [List.map_cons, List.sum_cons, szA] at ih ⊢
    rw [ih]
    congr 1
    have := cv_cat ad v
    by_cases z : v.1 = 1
    · have h2 : (cv ad v).category = 2 := by simpa [z] using this
      simp [z, h2]
    · simp [z, cv_cat1 ad z]
/-- behind a call -/
theorem call_go {My : mM} {X : Option vV × hH} {as rest : List vV} {H : Heap} {locs : List Loc} {ls : Array Slot} {av : Array Value} (hC : cxOk p R s m args meth c D G A H0 M) (hlv : ∀ q ∈ lv, hT (nn h) q.2.1 q.2.2) (hst : ∀ q ∈ rest, hT (nn h) q.1 q.2) (hn : n0 ≤ nn h) (hw : wOk D G A h H) (hS : va_S A H0 H locs) (hls : lv_has ls M.2.1 (lv.map (fun q => (q.1, cv G.1 q.2))))
    (hr : va_Run p l e R s m args below meth c H locs cells slots My.2.2.2.2.2.2.2.1 My.2.2.2.2.2.2.2.2 (F0 m pc ls (st.map (cv G.1))) (rest.map (cv G.1)) (qX D G (va_A (wld G h) H.size) sg (nn h) X av) (va_A (wld G h) H.size))
    (kk : Wq p l e R s m args below meth c D G A H0 sg n0 M x (cells + My.2.2.2.2.2.2.2.1) (slots + My.2.2.2.2.2.2.2.2) (pc + 3) lv (X.1.toList ++ rest) X.2) :
    W p l e R s m args below meth c H locs cells slots (MQ below (qX D G A sg n0 x) args s M.2.2.2.2.2.2.2.1 M.2.2.2.2.2.2.2.2 A) (F0 m pc ls (st.map (cv G.1))) := by
  have hA := hC.2.2.2.2.2.2.2.2.2.2.2.1
  have hAA : ∀ q, va_A (wld G h) H.size q → A q := by
    intro q hq
    rcases hq with ⟨k, e, hk⟩ | hk
    · exact hw.2.2 k (q, e) hk
    · exact hA q (Nat.le_trans hS.1 hk)
  intro T9 hT9 X9
  obtain ⟨v, st₀, t, T', L, h0, X', hL, e1, e2, ⟨⟨ho, hwt, hht, hnt, hz9⟩, hz, hk⟩, stp⟩ := hr T9 hT9 X9
  rw [h0] at hz hk
  have hv : v = X.1.map (cv G.1) := by injection ho
  subst hv
  have hmono : ∀ {T : Nat} {y : Int}, hT (nn h) T y → hT (nn X.2) T y := by
    intro T y hy
    match T, hy with
    | 0, hy => exact hy
    | 1, hy => exact hy
    | 2, hy => exact hy
    | T + 3, hy =>
      rcases hT_ref (by omega) hy with z | z | z
      · exact Or.inl z
      · exact Or.inr (Or.inl ⟨z.1, by omega, z.2.2⟩)
      · exact Or.inr (Or.inr z)
  have k2 := kk hC hht (by omega) (fun q hq => hmono (hlv q hq)) (fun q hq => by
    rcases List.mem_append.mp hq with z | z
    · exact hz9 q (Option.mem_toList.mp z)
    · exact hmono (hst q z)) T'.heap (locs ++ L) ls ⟨by rw [e1]; exact hwt.1, hwt.2.weaken (fun _ _ _ z => hAA _ z)⟩
    ⟨Nat.le_trans hS.1 (by rw [e1]; exact hz), fun q h1 h2 => by rw [e1, hk q (Nat.lt_of_lt_of_le h1 hS.1) (fun z => h2 (hAA q z))]; exact hS.2.1 q h1 h2, fun q hq => by
      rcases List.mem_append.mp hq with z | z
      · exact hS.2.2 q z
      · exact hAA _ (hL q z)⟩ hls
  obtain ⟨t2, a1, b1⟩ := k2 T' rfl X'
  refine ⟨t2, stp t2 ?_, b1⟩
  have hstk : (X.1.toList ++ rest).map (cv G.1) = (X.1.map (cv G.1)).toList ++ rest.map (cv G.1) := by
    cases X.1 <;> rfl
  rw [hstk] at a1
  exact a1
/-- words of a callee -/
theorem goodM {y : MethodName} {My : mM} (w5 : Cond.code y My.1 My.2.1 My.2.2.2.1 ∈ wsL_law) : GoodIn wsL_law (wsM y My) := by
  intro w hw
  rcases List.mem_cons.mp hw with e | hw
  · rw [e]; exact ⟨w5, good_ws w5⟩
  · exact ⟨hw, good_ws hw⟩
theorem r_callV {ci i n N : Nat} {y : MethodName} {My : mM} {o : Int} {as rest : List vV} {X : Option vV × hH} {T : u_T} (hM : Ctr l D G sg y My ((10 + ci, o) :: as) h X) (hci : ci < 13) (hcl : vwCl[ci]? = some (y.cls, T, N))
    (w1 : Cond.methodLink M.2.2.1 i y ∈ wsL_law) (w2 : Cond.instanceMethod y ∈ wsL_law) (w3 : Cond.selects y.cls y y ∈ wsL_law) (w4 : Cond.initialized y.cls ∈ wsL_law) (w5 : Cond.code y My.1 My.2.1 My.2.2.2.1 ∈ wsL_law)
    (hd9 : y.cls ≠ "java/lang/invoke/MethodHandle" ∧ y.cls ≠ "java/lang/invoke/VarHandle" ∧ (parseMethodDescriptor y.desc).map (fun d => d.parameters.length) = some as.length)
    (hR : My.2.2.2.2.2.1 + 1 ≤ M.2.2.2.2.2.1 ∧ 8 + (My.2.1 + 11) + My.2.2.2.2.2.2.1 ≤ M.2.2.2.2.2.2.1) (hcs : cells + My.2.2.2.2.2.2.2.1 ≤ M.2.2.2.2.2.2.2.1 ∧ slots + My.2.2.2.2.2.2.2.2 ≤ M.2.2.2.2.2.2.2.2) (h8 : szA rest ≤ 8)
    (hd : decode M.1 pc = .ok (.invokevirtual i, 3)) (hrev : as.reverse ++ (10 + ci, o) :: rest = st)
    (kk : Wq p l e R s m args below meth c D G A H0 sg n0 M x (cells + My.2.2.2.2.2.2.2.1) (slots + My.2.2.2.2.2.2.2.2) (pc + 3) lv (X.1.toList ++ rest) X.2) : Wq p l e R s m args below meth c D G A H0 sg n0 M x cells slots pc lv st h := by
  subst hrev
  intro hC hh hn hlv hst H locs ls hw hS hls
  have hts := hC.2.2.2.2.2.2.2.2.1
  have hRR := hC.2.2.2.2.2.2.1
  have hK := hC.2.2.2.2.2.2.2.2.2.2.1
  have ho : hT (nn h) (10 + ci) o := hst (10 + ci, o) (List.mem_append_right _ List.mem_cons_self)
  obtain ⟨h0, h1, h2⟩ := kOk (by omega) (by omega) ho
  have hcell : (wld G h)[o.toNat]? = some (G.1 o.toNat, .inr (ci, (List.range (nf ci)).map (fun j => cv G.1 (fT true ci j, h o j)))) := by rw [wld_get h0 h1, h2, cel_obj hci]
  have hM9 := hM hh (fun v hv => by
    rcases List.mem_cons.mp hv with e9 | hv
    · rw [e9]; exact ho
    · exact hst v (List.mem_append_left _ (List.mem_reverse.mpr hv))) H.size
  refine call_go (av := (Value.ref (G.1 o.toNat) :: as.map (cv G.1)).toArray) (as := as) (rest := rest) hC hlv (fun q hq => hst q (List.mem_append_right _ (List.mem_cons_of_mem _ hq))) hn hw hS hls ?_ kk
  refine va_runV (y := y) (C := y.cls) (own := M.2.2.1) (index := i) (bytes := My.1) (maxL := My.2.1) (ret := My.2.2.2.1) (ws := wsM y My) (rm := rmM My) (Ts := wsL_law) (cc := M.1) (nL := M.2.1) (n := as.length) (b := G.1 o.toNat) (As := as.map (cv G.1)) ⟨hC.1, hC.2.1, hC.2.2.1, hC.2.2.2.1, hts⟩ hM9
    ⟨callB_of as.length hts (goodM w5) rfl rfl rfl (hts _ w4) (hts _ w1) hd9 (by rw [hRR]; exact hR), hts _ w2, hts _ w3⟩
    ⟨pc_blind, va_recv hK hw.1 hcl hcell, fun U hU hW => ⟨?_, by rw [hU], by rw [hU]; exact hw.1, va_K.moved hW.alike hK, hw.2.weaken (fun _ _ _ _ => trivial), hC.2.2.2.2.2.2.2.2.2.1.warm hW, by rw [hU]; exact (hC.2.2.2.2.2.2.2.2.2.2.2.2.1 ▸ hC.2.2.2.2.2.2.2.2.2.2.2.2.2.2 : skOk G s H0).go hC.2.2.2.2.2.2.2.2.2.2.2.2.2.1 hS hW⟩⟩ rfl (by simp) hls.1 ?_ (lv_room (by rw [cat_sum]; exact h8)) hd (by rw [hRR]; exact hcs)
  · rw [List.map_cons, cv_refn G.1 (by omega) h0]
  · show (as.reverse ++ (10 + ci, o) :: rest).map (cv G.1) = _
    rw [List.map_append, List.map_reverse, List.map_cons, cv_refn G.1 (by omega) h0]
theorem r_callS {i : Nat} {y : MethodName} {My : mM} {as rest : List vV} {X : Option vV × hH} (hM : Ctr l D G sg y My as h X)
    (w1 : Cond.methodLink M.2.2.1 i y ∈ wsL_law) (w2 : Cond.static y ∈ wsL_law) (w4 : Cond.initialized y.cls ∈ wsL_law) (w5 : Cond.code y My.1 My.2.1 My.2.2.2.1 ∈ wsL_law)
    (hd9 : y.cls ≠ "java/lang/invoke/MethodHandle" ∧ y.cls ≠ "java/lang/invoke/VarHandle" ∧ (parseMethodDescriptor y.desc).map (fun d => d.parameters.length) = some as.length)
    (hR : My.2.2.2.2.2.1 + 1 ≤ M.2.2.2.2.2.1 ∧ 8 + (My.2.1 + 11) + My.2.2.2.2.2.2.1 ≤ M.2.2.2.2.2.2.1) (hcs : cells + My.2.2.2.2.2.2.2.1 ≤ M.2.2.2.2.2.2.2.1 ∧ slots + My.2.2.2.2.2.2.2.2 ≤ M.2.2.2.2.2.2.2.2) (h8 : szA rest ≤ 8)
    (hd : decode M.1 pc = .ok (.invokestatic i, 3)) (hrev : as.reverse ++ rest = st)
    (kk : Wq p l e R s m args below meth c D G A H0 sg n0 M x (cells + My.2.2.2.2.2.2.2.1) (slots + My.2.2.2.2.2.2.2.2) (pc + 3) lv (X.1.toList ++ rest) X.2) : Wq p l e R s m args below meth c D G A H0 sg n0 M x cells slots pc lv st h := by
  subst hrev
  intro hC hh hn hlv hst H locs ls hw hS hls
  have hts := hC.2.2.2.2.2.2.2.2.1
  have hRR := hC.2.2.2.2.2.2.1
  have hK := hC.2.2.2.2.2.2.2.2.2.2.1
  have hM9 := hM hh (fun v hv => hst v (List.mem_append_left _ (List.mem_reverse.mpr hv))) H.size
  refine call_go (av := (as.map (cv G.1)).toArray) (as := as) (rest := rest) hC hlv (fun q hq => hst q (List.mem_append_right _ hq)) hn hw hS hls ?_ kk
  exact va_runS (y := y) (own := M.2.2.1) (index := i) (bytes := My.1) (maxL := My.2.1) (ret := My.2.2.2.1) (ws := wsM y My) (rm := rmM My) (Ts := wsL_law) (cc := M.1) (nL := M.2.1) (n := as.length) (As := as.map (cv G.1)) ⟨hC.1, hC.2.1, hC.2.2.1, hC.2.2.2.1, hts⟩ hM9
    ⟨callB_of as.length hts (goodM w5) rfl rfl rfl (hts _ w4) (hts _ w1) hd9 (by rw [hRR]; exact hR), hts _ w2⟩
    ⟨pc_blind, fun U hU hW => ⟨rfl, by rw [hU], by rw [hU]; exact hw.1, va_K.moved hW.alike hK, hw.2.weaken (fun _ _ _ _ => trivial), hC.2.2.2.2.2.2.2.2.2.1.warm hW, by rw [hU]; exact (hC.2.2.2.2.2.2.2.2.2.2.2.2.1 ▸ hC.2.2.2.2.2.2.2.2.2.2.2.2.2.2 : skOk G s H0).go hC.2.2.2.2.2.2.2.2.2.2.2.2.2.1 hS hW⟩⟩ rfl (by simp) hls.1 (by simp [F0, List.map_append, List.map_reverse]) (lv_room (by rw [cat_sum]; exact h8)) hd (by rw [hRR]; exact hcs)
theorem r_callSN {i : Nat} {y : MethodName} {My : mM} {as rest : List vV} {X : Option vV × hH} {host : String} (hM : Ctr l D G sg y My as h X)
    (w1 : (M.2.2.1, i, y, host) ∈ nestL) (w2 : Cond.static y ∈ wsL_law) (w4 : Cond.initialized y.cls ∈ wsL_law) (w5 : Cond.code y My.1 My.2.1 My.2.2.2.1 ∈ wsL_law)
    (hd9 : y.cls ≠ "java/lang/invoke/MethodHandle" ∧ y.cls ≠ "java/lang/invoke/VarHandle" ∧ (parseMethodDescriptor y.desc).map (fun d => d.parameters.length) = some as.length)
    (hR : My.2.2.2.2.2.1 + 1 ≤ M.2.2.2.2.2.1 ∧ 8 + (My.2.1 + 11) + My.2.2.2.2.2.2.1 ≤ M.2.2.2.2.2.2.1) (hcs : cells + My.2.2.2.2.2.2.2.1 ≤ M.2.2.2.2.2.2.2.1 ∧ slots + My.2.2.2.2.2.2.2.2 ≤ M.2.2.2.2.2.2.2.2) (h8 : szA rest ≤ 8)
    (hd : decode M.1 pc = .ok (.invokestatic i, 3)) (hrev : as.reverse ++ rest = st)
    (kk : Wq p l e R s m args below meth c D G A H0 sg n0 M x (cells + My.2.2.2.2.2.2.2.1) (slots + My.2.2.2.2.2.2.2.2) (pc + 3) lv (X.1.toList ++ rest) X.2) : Wq p l e R s m args below meth c D G A H0 sg n0 M x cells slots pc lv st h := by
  subst hrev
  intro hC hh hn hlv hst H locs ls hw hS hls
  have hts := hC.2.2.2.2.2.2.2.2.1
  have hRR := hC.2.2.2.2.2.2.1
  have hK := hC.2.2.2.2.2.2.2.2.2.2.1
  have hns := hC.2.2.2.2.2.2.2.2.2.1
  have hM9 := hM hh (fun v hv => hst v (List.mem_append_left _ (List.mem_reverse.mpr hv))) H.size
  refine call_go (av := (as.map (cv G.1)).toArray) (as := as) (rest := rest) hC hlv (fun q hq => hst q (List.mem_append_right _ hq)) hn hw hS hls ?_ kk
  exact va_runSN (y := y) (own := M.2.2.1) (host := host) (index := i) (bytes := My.1) (maxL := My.2.1) (ret := My.2.2.2.1) (ws := wsM y My) (rm := rmM My) (Ts := wsL_law) (cc := M.1) (nL := M.2.1) (n := as.length) (As := as.map (cv G.1)) ⟨hC.1, hC.2.1, hC.2.2.1, hC.2.2.2.1, hts⟩ hM9
    ⟨va_cnB as.length hts (goodM w5) rfl rfl rfl (hns _ w1) (hts _ w4) hd9 (by rw [hRR]; exact hR), hts _ w2, trivial⟩
    ⟨pc_blind, fun U hU hW => ⟨rfl, by rw [hU], by rw [hU]; exact hw.1, va_K.moved hW.alike hK, hw.2.weaken (fun _ _ _ _ => trivial), hC.2.2.2.2.2.2.2.2.2.1.warm hW, by rw [hU]; exact (hC.2.2.2.2.2.2.2.2.2.2.2.2.1 ▸ hC.2.2.2.2.2.2.2.2.2.2.2.2.2.2 : skOk G s H0).go hC.2.2.2.2.2.2.2.2.2.2.2.2.2.1 hS hW⟩⟩ rfl (by simp) hls.1 (by simp [F0, List.map_append, List.map_reverse]) (lv_room (by rw [cat_sum]; exact h8)) hd (by rw [hRR]; exact hcs)
/-- the end of a method -/
theorem r_vret (hd : decode M.1 pc = .ok (.return_, 1)) (hr : M.2.2.2.1 = none) (hx : x = (none, h)) (hcs : cells = M.2.2.2.2.2.2.2.1 ∧ slots = M.2.2.2.2.2.2.2.2) : Wq p l e R s m args below meth c D G A H0 sg n0 M x cells slots pc lv [] h := by
  intro hC hh hn hlv hst H locs ls hw hS hls
  obtain ⟨rfl, rfl⟩ := hcs
  exact W.vret hC.1 hC.2.1 (hC.2.2.2.2.1.trans hr) (fun t ht _ => q_ret (Z := none) hx hC hh hn (fun _ h => by cases h) hw hS t ht) hS.2.2 hd hC.2.2.2.2.2.2.2.1
theorem r_ret {v : vV} {ty : FieldType} (hd : decode M.1 pc = .ok (.ireturn, 1)) (hr : M.2.2.2.1 = some ty) (hty : (v.1 = 0 ∧ ty = .int) ∨ (v.1 = 2 ∧ ty = .boolean)) (hx : x = (some v, h)) (hcs : cells = M.2.2.2.2.2.2.2.1 ∧ slots = M.2.2.2.2.2.2.2.2) : Wq p l e R s m args below meth c D G A H0 sg n0 M x cells slots pc lv [v] h := by
  intro hC hh hn hlv hst H locs ls hw hS hls
  obtain ⟨rfl, rfl⟩ := hcs
  obtain ⟨t, y⟩ := v
  have hv := hst _ List.mem_cons_self
  rcases hty with ⟨rfl, rfl⟩ | ⟨rfl, rfl⟩
  · exact W.zret hC.1 hC.2.1 (hC.2.2.2.2.1.trans hr) rfl (fun t ht _ => q_ret (Z := some (0, y)) hx hC hh hn (fun _ h => by cases h; exact hv) hw hS t ht) hS.2.2 hd hC.2.2.2.2.2.2.2.1
  · exact W.zret hC.1 hC.2.1 (hC.2.2.2.2.1.trans hr) (by rcases hv with e | e <;> (dsimp only at e; subst e; rfl)) (fun t ht _ => q_ret (Z := some (2, y)) hx hC hh hn (fun _ h => by cases h; exact hv) hw hS t ht) hS.2.2 hd hC.2.2.2.2.2.2.2.1
theorem r_lret {y : Int} (hd : decode M.1 pc = .ok (.lreturn, 1)) (hr : M.2.2.2.1 = some .long) (hx : x = (some (1, y), h)) (hcs : cells = M.2.2.2.2.2.2.2.1 ∧ slots = M.2.2.2.2.2.2.2.2) : Wq p l e R s m args below meth c D G A H0 sg n0 M x cells slots pc lv [(1, y)] h := by
  intro hC hh hn hlv hst H locs ls hw hS hls
  obtain ⟨rfl, rfl⟩ := hcs
  have hv := hst _ List.mem_cons_self
  exact W.lret hC.1 hC.2.1 (hC.2.2.2.2.1.trans hr) (fun t ht _ => q_ret (Z := some (1, y)) hx hC hh hn (fun _ h => by cases h; exact hv) hw hS t ht) hS.2.2 hd hC.2.2.2.2.2.2.2.1
theorem r_aret {v : vV} {rt : FieldType} (h3 : 3 ≤ v.1) (hd : decode M.1 pc = .ok (.areturn, 1)) (hr : M.2.2.2.1 = some rt) (hrt : (∃ n, rt = .object n) ∨ ∃ t, rt = .array t) (hx : x = (some v, h)) (hcs : cells = M.2.2.2.2.2.2.2.1 ∧ slots = M.2.2.2.2.2.2.2.2) : Wq p l e R s m args below meth c D G A H0 sg n0 M x cells slots pc lv [v] h := by
  intro hC hh hn hlv hst H locs ls hw hS hls
  obtain ⟨rfl, rfl⟩ := hcs
  have hv := hst _ List.mem_cons_self
  exact W.aret hC.1 hC.2.1 (hC.2.2.2.2.1.trans hr) hrt ((cv_ref G.1 h3).imp id (fun e => ⟨_, e⟩)) (fun t ht _ => q_ret (Z := some v) hx hC hh hn (fun _ h => by cases h; exact hv) hw hS t ht) hS.2.2 hd hC.2.2.2.2.2.2.2.1
end CORE7
