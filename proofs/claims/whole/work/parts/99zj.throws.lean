/-! METHODS THAT THROW -/
def noEl : String := "java/util/NoSuchElementException"
def noSup : List String := ["java/lang/RuntimeException", "java/lang/Exception"]
def xw4 : List Cond := [Cond.declares (Bundle.init0 "java/lang/RuntimeException"), Cond.declares (Bundle.init0 "java/lang/Exception"), Cond.declares (Bundle.init0 Bundle.tN), Cond.castable noEl noEl]
theorem xw4_eq : (vx_at0 RX11 249 noEl noSup).filter (fun w => !goodWord w) = xw4 := by decide +kernel
def xsOk (U : State) : Prop := ∀ w ∈ xw4, va_Nw w U
theorem xsOk.warm {s U : State} (hW : s.WarmedH U.vm) (h : xsOk s) : xsOk U := fun w hw => by
  have k := h w hw
  unfold xw4 at hw
  rcases List.mem_cons.mp hw with e | hw
  · subst e; exact va_Nw.warmD hW k
  rcases List.mem_cons.mp hw with e | hw
  · subst e; exact va_Nw.warmD hW k
  rcases List.mem_cons.mp hw with e | hw
  · subst e; exact va_Nw.warmD hW k
  rcases List.mem_cons.mp hw with e | hw
  · subst e; exact va_Nw.warmC hW k
  · exact absurd hw List.not_mem_nil
theorem xw4_tab : ∀ w ∈ xw4, w.onTables = true := by decide +kernel
theorem xsOk.same {u U : State} (hv : u.vm = U.vm) (h : xsOk u) : xsOk U := fun w hw => va_Nw.same (xw4_tab w hw) hv (h w hw)
def zsF (A : Nat → Prop) (U : State) (H : Heap) : Prop := vx_Zq Bundle.tN "UNASSIGNED_STACK" Bundle.steD A U H ∧ vx_Zq Bundle.tN "SUPPRESSED_SENTINEL" Bundle.listD A U H
def zsOk (G : gG) (U : State) (H : Heap) : Prop := xsOk U ∧ zsF (fun q => skB G q ∨ H.size ≤ q) U H
theorem zsOk.go {G : gG} {A : Nat → Prop} {s U : State} {H0 H : Heap} {locs : List Loc} (h : zsOk G s H0) (hA : ∀ q, A q → skB G q ∨ H0.size ≤ q) (hS : va_S A H0 H locs) (hW : s.WarmedH U.vm) : zsOk G U H := by
  have hk : ∀ a : Nat, a < H0.size → ¬ (skB G a ∨ H0.size ≤ a) → H[a]? = H0[a]? := fun a h1 h2 => hS.2.1 a h1 (fun z => h2 (hA a z))
  have hn : ∀ q : Nat, (skB G q ∨ H.size ≤ q) → (skB G q ∨ H0.size ≤ q) := fun q z => z.imp id (fun y => Nat.le_trans hS.1 y)
  exact ⟨h.1.warm hW, vx_Zq.moved hW.alike ((h.2.1.kept hk).narrow hn), vx_Zq.moved hW.alike ((h.2.2.kept hk).narrow hn)⟩
theorem zsOk.same {G : gG} {u U : State} (hv : U.vm = u.vm) (hh : U.heap = u.heap) (h : zsOk G u u.heap) : zsOk G U U.heap := by
  rw [hh]
  have hm : u.vm.Alike U.vm := by rw [hv]; exact Vm.Alike.refl _
  exact ⟨h.1.same hv.symm, vx_Zq.moved hm h.2.1, vx_Zq.moved hm h.2.2⟩
def pcX (D : va_G) (G : gG) (h : hH) (sz : Nat) (U : State) : Prop := pcM D G h sz U ∧ zsOk G U U.heap
/-- what a method that may throw has come to: the answer o (none: thrown), the heap as it was -/
def qXo (D : va_G) (G : gG) (A : Nat → Prop) (sg : Bool) (n0 : Int) (o : Option Int) (h : hH) : Array Value → State → Outcome → State → Prop := fun a s o9 t => ∃ r, o = some r ∧ qX D G A sg n0 (some (0, r), h) a s o9 t
def XCo (D : va_G) (G : gG) (A : Nat → Prop) (o : Option Int) (h : hH) : String → State → State → Prop := fun E s t => o = none ∧ E = noEl ∧ wOk D G A h t.heap ∧ va_F A s t
def CtX (l : Launch) (D : va_G) (G : gG) (sg : Bool) (y : MethodName) (M : mM) (as : List vV) (h : hH) (o : Option Int) : Prop :=
  hOk sg h → (∀ v ∈ as, hT (nn h) v.1 v.2) → ∀ sz : Nat, vx_Met l y (wsM y M) (rmM M) (va_Pc (as.map (cv G.1)) (pcX D G h sz)) (qXo D G (va_A (wld G h) sz) sg (nn h) o h) (XCo D G (va_A (wld G h) sz) o h) M.2.2.2.2.2.2.2.1 M.2.2.2.2.2.2.2.2 (va_A (wld G h) sz)
theorem W_to {p : Program} {l : Launch} {e : Env} {R : Room} {s : State} {m : MethodId} {args : Array Value} {below : List Frame} {meth : Method} {c : Code} {H : Heap} {locs : List Loc} {cells slots : Nat} {Q Q' : State → Prop} {g : JFrame} (k : W p l e R s m args below meth c H locs cells slots Q g) (h : ∀ t, Q t → Q' t) : W p l e R s m args below meth c H locs cells slots Q' g := fun T hT X => by
  obtain ⟨t, a, b⟩ := k T hT X
  exact ⟨t, a, h t b⟩
theorem CtX_of {l : Launch} {D : va_G} {G : gG} {sg : Bool} {y : MethodName} {M : mM} {as : List vV} {h : hH} {o : Option Int} (hy : plainName y.cls = true) (hown : M.2.2.1 = y.cls) (hin : M.2.2.2.2.1 = true → y.name = "<init>") (hsz : szA as ≤ M.2.1)
    (body : ∀ {p : Program} {e : Env} {R : Room} {s : State} {m : MethodId} {args : Array Value} {below : List Frame} {meth : Method} {c : Code} {A : Nat → Prop} {H0 : Heap}, (∀ z ∈ c.exceptionTable.toList, False) → zsF A s s.heap → xsOk s → Wz p l e R s m args below meth c D G A H0 sg (nn h) M (vx_MQ below (qXo D G A sg (nn h) o h) (XCo D G A o h) args s M.2.2.2.2.2.2.2.1 M.2.2.2.2.2.2.2.2 A) 0 0 0 (avA 0 as) [] h) : CtX l D G sg y M as h o := by
  intro hh has sz
  refine vx_ofW (cc := M.1) (maxL := M.2.1) (ret := M.2.2.2.1) hy rfl ?_
  intro p e s m args below meth c s₁ B hml hcx hv
  obtain ⟨rfl, ⟨hsz', hP, hK, hD0, hns, hsk⟩, hzs⟩ := hv
  have hts := atoms_spec (ws := wsM y M) B.pre
  have hown' : s.vm.findClass y.cls = some m.cls := findClass_of_methodNamed B.named
  subst hsz'
  rw [lg_entry_eq]
  have hl := lv_entry (as.map (cv G.1)) (n := M.2.1) (by rw [szA_eq]; exact hsz)
  rw [avA_eq] at hl
  have hA9 : ∀ q : Nat, va_A (wld G h) s.heap.size q → skB G q ∨ s.heap.size ≤ q := fun q hq => hq.imp (fun z => by obtain ⟨k, e9, hk⟩ := z; have hk2 := wld_mem hk; exact ⟨k, by have := hh.2.1; omega, (Prod.mk.inj hk2.2).1⟩) id
  exact body (e := e) (R := (headSpec (wsM y M) (rmM M)).room) (H0 := s.heap) hcx ⟨hzs.2.1.narrow hA9, hzs.2.2.narrow hA9⟩ hzs.1 ⟨B.exec, B.bytes, hml, by rw [hown]; exact hown', B.returns, fun z => (name_of_methodNamed B.named B.method).1.trans (hin z), rfl, B.notSynchronized, fun w hw => hts w (List.mem_cons_of_mem _ hw), hns, hK, fun q hq => Or.inr hq, rfl, hA9, hsk⟩ hh (Int.le_refl _) (fun q hq => has _ (avA_in as 0 q hq)) (fun _ h => absurd h List.not_mem_nil) s.heap [] _ ⟨hP, hD0.self⟩ va_S.rf hl
section ZX
variable {p : Program} {l : Launch} {e : Env} {R : Room} {s : State} {m : MethodId} {args : Array Value} {below : List Frame} {meth : Method} {c : Code} {D : va_G} {G : gG} {A : Nat → Prop} {H0 : Heap} {sg : Bool} {n0 : Int} {M : mM} {o : Option Int} {cells slots : Nat} {pc : Nat} {lv : List (Nat × vV)} {st : List vV} {h : hH}
/-- it answers -/
theorem z_retX {r : Int} (ho : o = some r) (hd : decode M.1 pc = .ok (.ireturn, 1)) (hr : M.2.2.2.1 = some .int) (hcs : cells ≤ M.2.2.2.2.2.2.2.1 ∧ slots ≤ M.2.2.2.2.2.2.2.2) : Wz p l e R s m args below meth c D G A H0 sg n0 M (vx_MQ below (qXo D G A sg n0 o h) (XCo D G A o h) args s M.2.2.2.2.2.2.2.1 M.2.2.2.2.2.2.2.2 A) cells slots pc lv [(0, r)] h := by
  intro hC hh hn hlv hst H locs ls hw hS hls
  have k := r_ret (p := p) (l := l) (e := e) (R := R) (s := s) (m := m) (args := args) (below := below) (meth := meth) (c := c) (D := D) (G := G) (A := A) (H0 := H0) (sg := sg) (n0 := n0) (M := M) (lv := lv) (h := h) (x := (some (0, r), h)) (v := (0, r)) (cells := M.2.2.2.2.2.2.2.1) (slots := M.2.2.2.2.2.2.2.2) hd hr (Or.inl ⟨rfl, rfl⟩) rfl ⟨rfl, rfl⟩ hC hh hn hlv hst H locs ls hw hS hls
  refine W_to (vx_ret (XC := XCo D G A o h) (W.widen hcs.1 hcs.2 k)) (fun t ht => ?_)
  obtain ⟨o9, b1, b2, b3⟩ := ht
  exact ⟨o9, b1, b2, b3.imp (fun z => ⟨⟨r, ho, z.1⟩, z.2⟩) id⟩
/-- it throws -/
theorem z_throw (ho : o = none) (htr : l.stackTraces = false) (hcx : ∀ z ∈ c.exceptionTable.toList, False) (hzs : zsF A s s.heap) (hxs : xsOk s) (hM : M.2.2.1 = RX11)
    (hk : Cond.classLink RX11 247 noEl ∈ wsL_law) (hini : Cond.initialized noEl ∈ wsL_law) (hg : (∀ w ∈ (vx_at0 RX11 249 noEl noSup).filter goodWord, w ∈ wsL_law) ∧ ∀ w ∈ Cond.classLink RX11 247 noEl :: Cond.initialized noEl :: vx_at0 RX11 249 noEl noSup, vx_ot w = true)
    (d0 : decode M.1 pc = .ok (.new 247, 3)) (d3 : decode M.1 (pc + 3) = .ok (.dup, 1)) (d4 : decode M.1 (pc + 4) = .ok (.invokespecial 249, 3)) (d7 : decode M.1 (pc + 7) = .ok (.athrow, 1))
    (hR : 6 ≤ M.2.2.2.2.2.1 ∧ 90 ≤ M.2.2.2.2.2.2.1 ∧ cells + 1 ≤ M.2.2.2.2.2.2.2.1 ∧ slots + 6 ≤ M.2.2.2.2.2.2.2.2) : Wz p l e R s m args below meth c D G A H0 sg n0 M (vx_MQ below (qXo D G A sg n0 o h) (XCo D G A o h) args s M.2.2.2.2.2.2.2.1 M.2.2.2.2.2.2.2.2 A) cells slots pc lv [] h := by
  intro hC hh hn hlv hst H locs ls hw hS hls
  have hts := hC.2.2.2.2.2.2.2.2.1
  have hRR := hC.2.2.2.2.2.2.1
  have hs0 := hC.2.2.2.2.2.2.2.2.2.2.2.2.1
  have hown := hC.2.2.2.1
  rw [hM] at hown
  subst hs0
  refine vx_throw0 (cls := noEl) (names := noSup) (ik := 247) (ic := 249) (A := A) hC.1 hC.2.1 htr hown (by decide +kernel) (by decide +kernel) (hts _ hk) (hts _ hini) (vx_hat (B := xw4) (fun w hw => hts w (hg.1 w hw)) (fun w hw => by rw [xw4_eq] at hw; exact hw) (fun w hw => va_Nw.use (xw4_tab w hw) (hxs w hw))) hg.2 hzs.1 hzs.2 hS (hls.1.trans hC.2.2.1.symm) d0 d3 d4 d7 (fun z hz => (hcx z hz).elim) (by rw [hRR]; exact Nat.lt_of_lt_of_le (show 2 + 3 < 6 by decide) hR.1) (by rw [hRR]; exact Nat.le_trans (show 0 + (13 * (2 + 1) + 42) ≤ 90 by decide) hR.2.1) (by rw [hRR]; exact hR.2.2.1) (by rw [hRR]; exact hR.2.2.2) hC.2.2.2.2.2.2.2.1 (fun t ha hz hk9 => ?_) hS.2.2 hR.2.2.1 hR.2.2.2
  refine ⟨ho, rfl, ⟨?_, hw.2⟩, ⟨Nat.le_trans hS.1 hz, fun q h1 h2 => by rw [hk9 q (Nat.lt_of_lt_of_le h1 hS.1)]; exact hS.2.1 q h1 h2⟩⟩
  exact fun k q hq => va_at.kept (hw.1 k q hq) (hk9 _ (va_at.lt (hw.1 k q hq)))
end ZX
