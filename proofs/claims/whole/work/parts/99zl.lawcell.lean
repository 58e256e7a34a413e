/-! THE LAW'S OWN cell, col, mean: they catch -/
theorem Met_ofWH {l : Launch} {y : MethodName} {ws ws' : List Cond} {rm : Room} {Pc : Array Value → State → Prop} {Qc : Array Value → State → Outcome → State → Prop} {mc ms : Nat} {free : Addr → Prop} {cc : ByteArray} {maxL : Nat} {ret : Option FieldType} {hh : List (Nat × Nat × Nat × Nat)}
    (hy : plainName y.cls = true) (hw : ws = Cond.codeWith y cc maxL ret hh :: ws')
    (body : ∀ p e s m args below meth c s₁, BodyLoose p l y (headSpec ws rm) cc maxL ret e s m args below meth c s₁ → c.maxLocals = maxL → Pc args s →
      W p l e (headSpec ws rm).room s m args below meth c s.heap [] 0 0 (MQ below Qc args s mc ms free) (entryFrame m args maxL)) : Met l y ws rm Pc Qc mc ms free := by
  refine MetFree.of_bodyS (code := cc) (maxLocals := maxL) (ret := ret) hy ?_ ?_
  · intro args s m h hn
    obtain ⟨m9, meth, c, hn9, h1, h2, h3, h4, -, h5, h6, -⟩ := Cond.codeWith_spec (atoms_spec (ws := ws) h _ (by rw [hw]; exact List.mem_cons_self))
    cases hn.symm.trans hn9
    exact ⟨meth, c, h1, h2, h3, h4, h5, h6⟩
  · intro p e s m args below meth c s₁ B hml hP _
    have hh0 : s₁.heap = s.heap := by rw [B.state]; rfl
    obtain ⟨t, a1, o, b1, b2, b3⟩ := body p e s m args below meth c s₁ B hml hP s₁ hh0 (Stand.of_body B)
    exact ⟨t, o, a1, b1, b2, b3⟩
def wsT (y : MethodName) (M : mM) (hh : List (Nat × Nat × Nat × Nat)) : List Cond := .codeWith y M.1 M.2.1 M.2.2.2.1 hh :: wsL_law
/-- the contract of a method with a table of its own that asks what a throw asks -/
def CtT (l : Launch) (D : va_G) (G : gG) (sg : Bool) (y : MethodName) (M : mM) (hh : List (Nat × Nat × Nat × Nat)) (as : List vV) (h : hH) (x : Option vV × hH) : Prop :=
  hOk sg h → (∀ v ∈ as, hT (nn h) v.1 v.2) → ∀ sz : Nat, Met l y (wsT y M hh) (rmM M) (va_Pc (as.map (cv G.1)) (pcX D G h sz)) (qX D G (va_A (wld G h) sz) sg (nn h) x) M.2.2.2.2.2.2.2.1 M.2.2.2.2.2.2.2.2 (va_A (wld G h) sz)
theorem CtT_of {l : Launch} {D : va_G} {G : gG} {sg : Bool} {y : MethodName} {M : mM} {hh9 : List (Nat × Nat × Nat × Nat)} {as : List vV} {h : hH} {x : Option vV × hH} (hy : plainName y.cls = true) (hown : M.2.2.1 = y.cls) (hin : M.2.2.2.2.1 = true → y.name = "<init>") (hsz : szA as ≤ M.2.1)
    (body : ∀ {p : Program} {e : Env} {R : Room} {s : State} {m : MethodId} {args : Array Value} {below : List Frame} {meth : Method} {c : Code} {A : Nat → Prop} {H0 : Heap}, c.exceptionTable.toList = tableOf hh9 → zsOk G s s.heap → Wq p l e R s m args below meth c D G A H0 sg (nn h) M x 0 0 0 (avA 0 as) [] h) : CtT l D G sg y M hh9 as h x := by
  intro hh has sz
  refine Met_ofWH (cc := M.1) (maxL := M.2.1) (ret := M.2.2.2.1) (hh := hh9) hy rfl ?_
  intro p e s m args below meth c s₁ B hml hv
  obtain ⟨rfl, ⟨hsz', hP, hK, hD0, hns, hsk⟩, hzs⟩ := hv
  have hts := atoms_spec (ws := wsT y M hh9) B.pre
  have htb : c.exceptionTable.toList = tableOf hh9 := vx_table (x := y) B (hts _ List.mem_cons_self)
  have hown' : s.vm.findClass y.cls = some m.cls := findClass_of_methodNamed B.named
  subst hsz'
  rw [lg_entry_eq]
  have hl := lv_entry (as.map (cv G.1)) (n := M.2.1) (by rw [szA_eq]; exact hsz)
  rw [avA_eq] at hl
  exact body (e := e) (R := (headSpec (wsT y M hh9) (rmM M)).room) (H0 := s.heap) htb hzs ⟨B.exec, B.bytes, hml, by rw [hown]; exact hown', B.returns, fun z => (name_of_methodNamed B.named B.method).1.trans (hin z), rfl, B.notSynchronized, fun w hw => hts w (List.mem_cons_of_mem _ hw), hns, hK, fun q hq => Or.inr hq, rfl, fun q hq => hq.imp (fun z => by obtain ⟨k, e9, hk⟩ := z; have hk2 := wld_mem hk; exact ⟨k, by have := hh.2.1; omega, (Prod.mk.inj hk2.2).1⟩) id, hsk⟩ hh (Int.le_refl _) (fun q hq => has _ (avA_in as 0 q hq)) (fun _ h => absurd h List.not_mem_nil) s.heap [] _ ⟨hP, hD0.self⟩ va_S.rf hl
section CX
variable {p : Program} {l : Launch} {e : Env} {R : Room} {s : State} {m : MethodId} {args : Array Value} {below : List Frame} {meth : Method} {c : Code} {D : va_G} {G : gG} {A : Nat → Prop} {H0 : Heap} {sg : Bool} {n0 : Int} {M : mM} {x : Option vV × hH} {cells slots : Nat} {pc : Nat} {lv : List (Nat × vV)} {st : List vV} {h : hH}
theorem pcX_blind {as : List Value} {sz : Nat} : FrameBlind (va_Pc as (pcX D G h sz)) := by
  intro a U g mk q
  obtain ⟨q0, q1, q2⟩ := q
  have k := pc_blind (D := D) (G := G) (h := h) (as := as) (sz := sz) a U g mk ⟨q0, q1⟩
  exact ⟨k.1, k.2, zsOk.same (u := U) (U := U.calling g mk a) rfl rfl q2⟩
/-- a call that answers, or throws and is caught here -/
theorem r_callX {ci i n N hp kl cx : Nat} {y : MethodName} {My : mM} {o9 : Int} {as rest : List vV} {o : Option Int} {T : u_T} {xe : ExceptionTableEntry} (hM : CtX l D G sg y My ((10 + ci, o9) :: as) h o) (hI : cI y My n) (hn9 : n = as.length) (hci : ci < 13) (hcl : vwCl[ci]? = some (y.cls, T, N)) (w1 : Cond.methodLink M.2.2.1 i y ∈ wsL_law)
    (hR : (Nat.ble (My.2.2.2.2.2.1 + 1) M.2.2.2.2.2.1 && Nat.ble (8 + (My.2.1 + 11) + My.2.2.2.2.2.2.1) M.2.2.2.2.2.2.1 && Nat.ble (cells + My.2.2.2.2.2.2.2.1) M.2.2.2.2.2.2.2.1 && Nat.ble (slots + My.2.2.2.2.2.2.2.2) M.2.2.2.2.2.2.2.2 && Nat.ble (szA rest) 8) = true)
    (hd : decode M.1 pc = .ok (.invokevirtual i, 3)) (hrev : as.reverse ++ (10 + ci, o9) :: rest = st) (hzs : zsOk G s s.heap)
    (htb : c.exceptionTable.toList = [xe]) (hcov : covers xe pc = true) (hxe : xe.handlerPc = hp ∧ xe.catchType = cx ∧ cx ≠ 0) (wl : Cond.classLink M.2.2.1 cx noEl ∈ wsL_law) (hda : decode M.1 hp = .ok (.astore kl, 2)) (hkl : kl < M.2.1)
    (kk : ∀ r, o = some r → Wq p l e R s m args below meth c D G A H0 sg n0 M x (cells + My.2.2.2.2.2.2.2.1) (slots + My.2.2.2.2.2.2.2.2) (pc + 3) lv ((0, r) :: rest) h)
    (kx : o = none → Wq p l e R s m args below meth c D G A H0 sg n0 M x (cells + My.2.2.2.2.2.2.2.1) (slots + My.2.2.2.2.2.2.2.2) (hp + 2) [] [] h) : Wq p l e R s m args below meth c D G A H0 sg n0 M x cells slots pc lv st h := by
  subst hrev
  subst hn9
  simp only [Bool.and_eq_true, Nat.ble_eq] at hR
  intro hC hh hn hlv hst H locs ls hw hS hls
  have hts := hC.2.2.2.2.2.2.2.2.1
  have hRR := hC.2.2.2.2.2.2.1
  have hK := hC.2.2.2.2.2.2.2.2.2.2.1
  have hA := hC.2.2.2.2.2.2.2.2.2.2.2.1
  have hs0 := hC.2.2.2.2.2.2.2.2.2.2.2.2.1
  have ho : hT (nn h) (10 + ci) o9 := hst (10 + ci, o9) (List.mem_append_right _ List.mem_cons_self)
  have hrest : ∀ q ∈ rest, hT (nn h) q.1 q.2 := fun q hq => hst q (List.mem_append_right _ (List.mem_cons_of_mem _ hq))
  obtain ⟨h0, h1, h2⟩ := kOk (by omega) (by omega) ho
  have hcell : (wld G h)[o9.toNat]? = some (G.1 o9.toNat, .inr (ci, (List.range (nf ci)).map (fun j => cv G.1 (fT true ci j, h o9 j)))) := by rw [wld_get h0 h1, h2, cel_obj hci]
  have hM9 := hM hh (fun v hv => by
    rcases List.mem_cons.mp hv with e9 | hv
    · rw [e9]; exact ho
    · exact hst v (List.mem_append_left _ (List.mem_reverse.mpr hv))) H.size
  have hAA : ∀ q, va_A (wld G h) H.size q → A q := by
    intro q hq
    rcases hq with ⟨k, e, hk⟩ | hk
    · exact hw.2.2 k (q, e) hk
    · exact hA q (Nat.le_trans hS.1 hk)
  have hr := vx_runV (p := p) (l := l) (e := e) (R := R) (s := s) (m := m) (args := args) (below := below) (meth := meth) (c := c) (H := H) (locs := locs) (cells := cells) (slots := slots) (y := y) (C := y.cls) (own := M.2.2.1) (index := i) (bytes := My.1) (maxL := My.2.1) (ret := My.2.2.2.1) (ws := wsM y My) (rm := rmM My) (Ts := wsL_law) (cc := M.1) (nL := M.2.1) (n := as.length) (b := G.1 o9.toNat) (As := as.map (cv G.1)) (rest := rest.map (cv G.1)) (g := F0 m pc ls ((as.reverse ++ (10 + ci, o9) :: rest).map (cv G.1))) ⟨hC.1, hC.2.1, hC.2.2.1, hC.2.2.2.1, hts⟩ (by have := hM9; rw [List.map_cons, cv_refn G.1 (by omega) h0] at this; exact this)
    ⟨callB_of as.length hts (goodM hI.2.2.2.1) rfl rfl rfl (hts _ hI.2.2.1) (hts _ w1) hI.2.2.2.2 (by rw [hRR]; exact ⟨hR.1.1.1.1, hR.1.1.1.2⟩), hts _ hI.1, hts _ hI.2.1⟩
    ⟨pcX_blind, va_recv hK hw.1 hcl hcell, fun U hU hW => ⟨rfl, ⟨by rw [hU], by rw [hU]; exact hw.1, va_K.moved hW.alike hK, hw.2.weaken (fun _ _ _ _ => trivial), hC.2.2.2.2.2.2.2.2.2.1.warm hW, by rw [hU]; exact (hs0 ▸ hC.2.2.2.2.2.2.2.2.2.2.2.2.2.2 : skOk G s H0).go hC.2.2.2.2.2.2.2.2.2.2.2.2.2.1 hS hW⟩, by rw [hU]; exact (hs0 ▸ hzs : zsOk G s H0).go hC.2.2.2.2.2.2.2.2.2.2.2.2.2.1 hS hW⟩⟩ rfl (by simp) hls.1 (by
      show (as.reverse ++ (10 + ci, o9) :: rest).map (cv G.1) = _
      rw [List.map_append, List.map_reverse, List.map_cons, cv_refn G.1 (by omega) h0]) (lv_room (by rw [cat_sum]; exact hR.2)) hd (by rw [hRR]; exact ⟨hR.1.1.2, hR.1.2⟩)
  have hSn : ∀ {H1 : Heap} {L : List Loc}, H.size ≤ H1.size → (∀ q : Nat, q < H.size → ¬ va_A (wld G h) H.size q → H1[q]? = H[q]?) → (∀ q ∈ L, va_A (wld G h) H.size q.base) → va_S A H0 H1 (locs ++ L) := fun hz hk hL =>
    ⟨Nat.le_trans hS.1 hz, fun q h1 h2 => by rw [hk q (Nat.lt_of_lt_of_le h1 hS.1) (fun z => h2 (hAA q z))]; exact hS.2.1 q h1 h2, fun q hq => by
      rcases List.mem_append.mp hq with z | z
      · exact hS.2.2 q z
      · exact hAA _ (hL q z)⟩
  intro T9 hT9 X9
  rcases hr T9 hT9 X9 with ⟨v, st₀, t, T', L, e0, X', hL, e1, e2, ⟨r, hor, ⟨hov, hwt, hht, hnt, hz9⟩, hz, hk⟩, stp⟩ | ⟨q, st₀, t, T', L, E, ce, e0, X', hL, e1, e2, ⟨hon, hE, hwt, hz, hk⟩, hce, hcv, hcl9, stp⟩
  · rw [e0] at hz hk
    have hv : v = some (cv G.1 (0, r)) := by injection hov
    subst hv
    obtain ⟨t2, a1, b1⟩ := kk r hor hC hht hn hlv (stc (hz9 _ rfl) hrest) T'.heap (locs ++ L) ls ⟨by rw [e1]; exact hwt.1, hwt.2.weaken (fun _ _ _ z => hAA _ z)⟩ (by rw [e1]; exact hSn hz hk hL) hls T' rfl X'
    exact ⟨t2, stp t2 a1, b1⟩
  · rw [e0] at hz hk
    subst hE
    have hce' : T'.heap[q]? = some ce := by rw [e1]; exact hce
    have hcat : vx_W p l e R s m args below meth c T'.heap (locs ++ L) (cells + My.2.2.2.2.2.2.2.1) (slots + My.2.2.2.2.2.2.2.2) (MQ below (qX D G A sg n0 x) args s M.2.2.2.2.2.2.2.1 M.2.2.2.2.2.2.2.2 A) (F0 m pc ls (rest.map (cv G.1))) q := by
      refine vx_catch (own := M.2.2.1) (name := noEl) hC.2.2.2.1 [] xe [] htb (fun _ h => absurd h List.not_mem_nil) hcov (by rw [hxe.2.1]; exact hxe.2.2) (by rw [hxe.2.1]; exact hts _ wl) (va_Nw.use (xw4_tab _ (List.mem_of_getElem? (i := 3) rfl)) (hzs.1 _ (List.mem_of_getElem? (i := 3) rfl))) hce' hcv hcl9 ?_
      rw [hxe.1]
      refine lv_astore hC.1 hC.2.1 hda hls hkl rfl (fun ls' hls' => ?_)
      exact kx hon hC hh hn (fun _ h => absurd h List.not_mem_nil) (fun _ h => absurd h List.not_mem_nil) T'.heap (locs ++ L) ls' ⟨by rw [e1]; exact hwt.1, hwt.2.weaken (fun _ _ _ z => hAA _ z)⟩ (by rw [e1]; exact hSn hz hk hL) ⟨hls'.1, hls'.2.1, fun _ h => absurd h List.not_mem_nil⟩
    obtain ⟨t2, a1, b1⟩ := hcat T' rfl X'
    exact ⟨t2, stp.trans a1, b1⟩
end CX
