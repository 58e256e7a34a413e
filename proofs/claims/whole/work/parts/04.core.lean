/-! THE MACHINE OVER THE ABSTRACT HEAP -/
/-- what a method is: code, locals, class, answer's kind, whether <init>, frames, locals' room, cells, slots -/
abbrev mM : Type := ByteArray × Nat × String × Option FieldType × Bool × Nat × Nat × Nat × Nat
def nsOk (U : State) : Prop := ∀ q ∈ nestL, va_Nw (.methodLinkNest q.1 q.2.1 q.2.2.1 q.2.2.2) U
theorem nsOk.warm {s U : State} (hW : s.WarmedH U.vm) (h : nsOk s) : nsOk U := fun q hq => va_Nw.warmM hW (h q hq)
theorem nsOk.same {u U : State} (hv : u.vm = U.vm) (h : nsOk u) : nsOk U := fun q hq => va_Nw.same rfl hv (h q hq)
/-- the one text constant, and what the methods of texts ask of the start -/
def kBy : List Int32 := [116, 97, 98, 108, 101, 32, 107, 101, 121, 32, 114, 101, 102, 32, 116, 111, 32, 114, 101, 102, 117, 115, 101, 32, 102, 111, 108, 108, 111, 119, 32, 99, 108, 101, 97, 114, 32, 114, 101, 115, 101, 116, 32, 102, 117, 108, 108, 32, 108, 97, 116, 101, 32, 100, 101, 102, 97, 117, 108, 116, 32, 110, 101, 101, 100, 32, 99, 104, 101, 99, 107, 32, 105, 110, 115, 101, 114, 116, 32, 100, 101, 108, 101, 116, 101, 32, 105, 102, 32, 97, 110, 100, 32, 115, 101, 116, 32, 98, 101, 103, 105, 110, 32, 99, 111, 109, 109, 105, 116, 32, 98, 97, 99, 107, 32, 110, 111, 110, 101, 32, 111, 114, 32, 110, 111, 116, 32, 98, 97, 114, 101, 32, 107, 110, 111, 119, 110, 32, 98, 114, 111, 107, 101, 110, 32, 105, 110, 32, 114, 111, 119, 32]
def kTx : String := "table key ref to refuse follow clear reset full late default need check insert delete if and set begin commit back none or not bare known broken in row "
def skB (G : gG) (q : Nat) : Prop := ∃ k : Nat, k < lay.length ∧ q = G.1 k
def skF (G : gG) (A : Nat → Prop) (U : State) (H : Heap) : Prop := vk_R RX9 88 kTx (G.1 1000) U ∧ vk_S 1 [152] [kBy] (fun _ => G.1 1000) (fun _ => G.1 1001) A U H ∧ va_Z "java/lang/String" "COMPACT_STRINGS" "Z" (.int 1) A U H ∧ (va_Z "jdk/internal/util/Preconditions" "SIOOBE_FORMATTER" "Ljava/util/function/BiFunction;" (.ref (G.1 1002)) A U H ∨ va_Z "jdk/internal/util/Preconditions" "SIOOBE_FORMATTER" "Ljava/util/function/BiFunction;" .null A U H)
def skOk (G : gG) (U : State) (H : Heap) : Prop := skF G (fun q => skB G q ∨ H.size ≤ q) U H
theorem skF.narrow {G : gG} {A B : Nat → Prop} {U : State} {H : Heap} (h : skF G A U H) (hAB : ∀ q, B q → A q) : skF G B U H := ⟨h.1, h.2.1.narrow hAB, h.2.2.1.narrow hAB, h.2.2.2.imp (fun z => z.narrow hAB) (fun z => z.narrow hAB)⟩
theorem skF.kept {G : gG} {A : Nat → Prop} {U : State} {H H1 : Heap} (h : skF G A U H) (hq : ∀ a : Nat, a < H.size → ¬ A a → H1[a]? = H[a]?) : skF G A U H1 := ⟨h.1, h.2.1.kept hq, h.2.2.1.kept hq, h.2.2.2.imp (fun z => z.kept hq) (fun z => z.kept hq)⟩
theorem skF.warm {G : gG} {A : Nat → Prop} {s U : State} {H : Heap} (hW : s.WarmedH U.vm) (h : skF G A s H) : skF G A U H := ⟨h.1.warm hW, h.2.1.moved hW.alike, h.2.2.1.moved hW.alike, h.2.2.2.imp (fun z => z.moved hW.alike) (fun z => z.moved hW.alike)⟩
theorem skOk.go {G : gG} {A : Nat → Prop} {s U : State} {H0 H : Heap} {locs : List Loc} (h : skOk G s H0) (hA : ∀ q, A q → skB G q ∨ H0.size ≤ q) (hS : va_S A H0 H locs) (hW : s.WarmedH U.vm) : skOk G U H :=
  ((h.kept (fun a h1 h2 => hS.2.1 a h1 (fun z => h2 (hA a z)))).narrow (fun q z => z.imp id (fun y => Nat.le_trans hS.1 y))).warm hW
theorem skOk.same {G : gG} {u U : State} (hv : U.vm = u.vm) (hh : U.heap = u.heap) (h : skOk G u u.heap) : skOk G U U.heap := by
  rw [hh]
  have hm : u.vm.Alike U.vm := by rw [hv]; exact Vm.Alike.refl _
  exact ⟨vk_R.same hv h.1, h.2.1.moved hm, h.2.2.1.moved hm, h.2.2.2.imp (fun z => z.moved hm) (fun z => z.moved hm)⟩
/-- the world of a heap -/
def wOk (D : va_G) (G : gG) (A : Nat → Prop) (h : hH) (H : Heap) : Prop := va_P D vwCl (wld G h) H ∧ va_D A (wld G h)
def cxOk (p : Program) (R : Room) (s : State) (m : MethodId) (args : Array Value) (meth : Method) (c : Code) (D : va_G) (G : gG) (A : Nat → Prop) (H0 : Heap) (M : mM) : Prop :=
  p.tables.exec = Jvm.exec ∧ c.code = M.1 ∧ c.maxLocals = M.2.1 ∧ s.vm.findClass M.2.2.1 = some m.cls ∧ meth.sig.returnType = M.2.2.2.1 ∧ (M.2.2.2.2.1 = true → meth.name = "<init>") ∧ R = { frames := M.2.2.2.2.2.1, cells := M.2.2.2.2.2.2.2.1, slots := M.2.2.2.2.2.2.2.2, locals := M.2.2.2.2.2.2.1 } ∧
  meth.locks = false ∧ (∀ w ∈ wsL_law, w.before args s = true) ∧ nsOk s ∧ va_K D vwCl (tyG G) s ∧ (∀ q : Nat, H0.size ≤ q → A q) ∧ H0 = s.heap ∧ (∀ q : Nat, A q → skB G q ∨ H0.size ≤ q) ∧ skOk G s s.heap
/-- what a method has come to: its answer, its heap -/
def qX (D : va_G) (G : gG) (A : Nat → Prop) (sg : Bool) (n0 : Int) (x : Option vV × hH) : Array Value → State → Outcome → State → Prop := fun _ st o t =>
  (o = .returned (x.1.map (cv G.1)) ∧ wOk D G A x.2 t.heap ∧ hOk sg x.2 ∧ n0 ≤ nn x.2 ∧ ∀ v ∈ x.1, hT (nn x.2) v.1 v.2) ∧ va_F A st t
section CORE
variable {p : Program} {l : Launch} {e : Env} {R : Room} {s : State} {m : MethodId} {args : Array Value} {below : List Frame} {meth : Method} {c : Code} {D : va_G} {G : gG} {A : Nat → Prop} {H0 : Heap} {sg : Bool} {n0 : Int} {M : mM} {x : Option vV × hH} {cells slots : Nat} {pc : Nat} {lv : List (Nat × vV)} {st : List vV} {h : hH}
def Wq (p : Program) (l : Launch) (e : Env) (R : Room) (s : State) (m : MethodId) (args : Array Value) (below : List Frame) (meth : Method) (c : Code) (D : va_G) (G : gG) (A : Nat → Prop) (H0 : Heap) (sg : Bool) (n0 : Int) (M : mM) (x : Option vV × hH) (cells slots : Nat) (pc : Nat) (lv : List (Nat × vV)) (st : List vV) (h : hH) : Prop :=
  cxOk p R s m args meth c D G A H0 M → hOk sg h → n0 ≤ nn h → (∀ q ∈ lv, hT (nn h) q.2.1 q.2.2) → (∀ q ∈ st, hT (nn h) q.1 q.2) → ∀ (H : Heap) (locs : List Loc) (ls : Array Slot), wOk D G A h H → va_S A H0 H locs → lv_has ls M.2.1 (lv.map (fun q => (q.1, cv G.1 q.2))) →
    W p l e R s m args below meth c H locs cells slots (MQ below (qX D G A sg n0 x) args s M.2.2.2.2.2.2.2.1 M.2.2.2.2.2.2.2.2 A) (F0 m pc ls (st.map (cv G.1)))
theorem lvg {j i : Nat} {v : vV} {ls : Array Slot} {nL : Nat} (hl : lv_has ls nL (lv.map (fun q => (q.1, cv G.1 q.2)))) (hj : lv[j]? = some (i, v)) : ls[i]? = some (.val (cv G.1 v)) :=
  lv_at hl j (by rw [List.getElem?_map, hj]; rfl)
theorem stc {v : vV} {st : List vV} {n : Int} (hv : hT n v.1 v.2) (hs : ∀ q ∈ st, hT n q.1 q.2) : ∀ q ∈ v :: st, hT n q.1 q.2 := fun q hq => (List.mem_cons.mp hq).elim (fun e => e ▸ hv) (hs q)
theorem lvc {i : Nat} {v : vV} {lv lv' : List (Nat × vV)} {n : Int} (hv : hT n v.1 v.2) (hs : ∀ q ∈ lv, hT n q.2.1 q.2.2) (f : Nat × vV → Bool) (hl : (i, v) :: lv.filter f = lv') : ∀ q ∈ lv', hT n q.2.1 q.2.2 := by
  subst hl
  intro q hq
  rcases List.mem_cons.mp hq with e | hq
  · subst e; exact hv
  · exact hs q (List.mem_filter.mp hq).1
theorem lvm {G : gG} {i : Nat} {v : vV} {lv lv' : List (Nat × vV)} (f : Nat × vV → Bool) (g : Nat × Value → Bool) (hfg : ∀ q, g (q.1, cv G.1 q.2) = f q) (hl : (i, v) :: lv.filter f = lv') : (i, cv G.1 v) :: (lv.map (fun q => (q.1, cv G.1 q.2))).filter g = lv'.map (fun q => (q.1, cv G.1 q.2)) := by
  subst hl
  rw [List.map_cons, List.filter_map]
  congr 3
  funext q
  exact hfg q
/-- a long value takes two places -/
theorem cv_cat (ad : Nat → Nat) (v : vV) : ((cv ad v).category == 2) = (v.1 == 1) := by
  obtain ⟨t, x⟩ := v
  match t with
  | 0 => rfl
  | 1 => rfl
  | 2 => rfl
  | t + 3 =>
    rw [cv_ge]
    split <;> simp [Value.category]
theorem cv_cat1 (ad : Nat → Nat) {v : vV} (h : v.1 ≠ 1) : (cv ad v).category = 1 := by
  obtain ⟨t, x⟩ := v
  match t, h with
  | 0, _ => rfl
  | 1, h => exact absurd rfl h
  | 2, _ => rfl
  | t + 3, _ =>
    rw [cv_ge]
    split <;> rfl
def fl1 (i : Nat) (q : Nat × vV) : Bool := !(q.1 == i) && !(q.1 + 1 == i && q.2.1 == 1)
def fl2 (i : Nat) (q : Nat × vV) : Bool := !(q.1 == i) && (!(q.1 == i + 1) && !(q.1 + 1 == i && q.2.1 == 1))
theorem r_sub (ks : List Nat) {lv' : List (Nat × vV)} (hl : ks.filterMap (fun k => lv[k]?) = lv') (kk : Wq p l e R s m args below meth c D G A H0 sg n0 M x cells slots pc lv' st h) : Wq p l e R s m args below meth c D G A H0 sg n0 M x cells slots pc lv st h := by
  intro hC hh hn hlv hst H locs ls hw hS hls
  refine kk hC hh hn (fun q hq => ?_) hst H locs ls hw hS ?_
  · subst hl
    obtain ⟨k, -, hk⟩ := List.mem_filterMap.mp hq
    exact hlv q (List.mem_of_getElem? hk)
  · refine lv_sub hls ks ?_
    subst hl
    unfold lv_pick
    rw [List.map_filterMap]
    congr 1
    funext k
    simp [List.getElem?_map]
/-- a value under another code -/
theorem r_cast {v w : vV} (hv : ∀ ad, cv ad v = cv ad w) (hT' : hT (nn h) v.1 v.2 → hT (nn h) w.1 w.2) (kk : Wq p l e R s m args below meth c D G A H0 sg n0 M x cells slots pc lv (w :: st) h) : Wq p l e R s m args below meth c D G A H0 sg n0 M x cells slots pc lv (v :: st) h := by
  intro hC hh hn hlv hst H locs ls hw hS hls
  have := kk hC hh hn hlv (stc (hT' (hst v List.mem_cons_self)) (fun q hq => hst q (List.mem_cons_of_mem _ hq))) H locs ls hw hS hls
  rw [List.map_cons, ← hv G.1, ← List.map_cons] at this
  exact this
theorem r_z2i {b : Int} (kk : Wq p l e R s m args below meth c D G A H0 sg n0 M x cells slots pc lv ((0, b) :: st) h) : Wq p l e R s m args below meth c D G A H0 sg n0 M x cells slots pc lv ((2, b) :: st) h :=
  r_cast (v := (2, b)) (w := (0, b)) (fun _ => rfl) (fun hb => hT_R32 (n := nn h) (T := 2) (Or.inr rfl) hb) kk
theorem r_i2z {b : Int} (hb : b = 0 ∨ b = 1) (kk : Wq p l e R s m args below meth c D G A H0 sg n0 M x cells slots pc lv ((2, b) :: st) h) : Wq p l e R s m args below meth c D G A H0 sg n0 M x cells slots pc lv ((0, b) :: st) h :=
  r_cast (v := (0, b)) (w := (2, b)) (fun _ => rfl) (fun _ => hb) kk
/-- what the machine does with the top alone -/
theorem r_pure {v : vV} {pc' : Nat} (hv : hT (nn h) v.1 v.2) (step : ∀ {Q : State → Prop} {H : Heap} {locs : List Loc} {ls : Array Slot}, p.tables.exec = Jvm.exec → c.code = M.1 → s.vm.findClass M.2.2.1 = some m.cls → (∀ w ∈ wsL_law, w.before args s = true) → lv_has ls M.2.1 (lv.map (fun q => (q.1, cv G.1 q.2))) →
      W p l e R s m args below meth c H locs cells slots Q (F0 m pc' ls (cv G.1 v :: st.map (cv G.1))) → W p l e R s m args below meth c H locs cells slots Q (F0 m pc ls (st.map (cv G.1))))
    (kk : Wq p l e R s m args below meth c D G A H0 sg n0 M x cells slots pc' lv (v :: st) h) : Wq p l e R s m args below meth c D G A H0 sg n0 M x cells slots pc lv st h := by
  intro hC hh hn hlv hst H locs ls hw hS hls
  exact step hC.1 hC.2.1 hC.2.2.2.1 hC.2.2.2.2.2.2.2.2.1 hls (kk hC hh hn hlv (stc hv hst) H locs ls hw hS hls)
theorem r_iconst {n : Int} (hd : decode M.1 pc = .ok (.iconst n, 1)) (hr : R32 n) (kk : Wq p l e R s m args below meth c D G A H0 sg n0 M x cells slots (pc + 1) lv ((0, n) :: st) h) : Wq p l e R s m args below meth c D G A H0 sg n0 M x cells slots pc lv st h :=
  r_pure (v := (0, n)) hr (fun hx hb _ _ _ k => lv_iconst hx hb hd rfl k) kk
theorem r_sipush {n : Int} (hd : decode M.1 pc = .ok (.sipush n, 3)) (hr : R32 n) (hv : (Int16.ofInt n).toInt32 = Int32.ofInt n) (kk : Wq p l e R s m args below meth c D G A H0 sg n0 M x cells slots (pc + 3) lv ((0, n) :: st) h) : Wq p l e R s m args below meth c D G A H0 sg n0 M x cells slots pc lv st h :=
  r_pure (v := (0, n)) hr (fun hx hb _ _ _ k => lv_sipush hx hb hd hv k) kk
theorem r_bipush {n : Int} (hd : decode M.1 pc = .ok (.bipush n, 2)) (hr : R32 n) (hv : (Int8.ofInt n).toInt32 = Int32.ofInt n) (kk : Wq p l e R s m args below meth c D G A H0 sg n0 M x cells slots (pc + 2) lv ((0, n) :: st) h) : Wq p l e R s m args below meth c D G A H0 sg n0 M x cells slots pc lv st h :=
  r_pure (v := (0, n)) hr (fun hx hb _ _ _ k => lv_bipush hx hb hd hv k) kk
theorem r_lconst {n : Fin 2} {v : Int} (hd : decode M.1 pc = .ok (.lconst n, 1)) (hr : R64 v) (hv : Int64.ofNat (n : Nat) = Int64.ofInt v) (kk : Wq p l e R s m args below meth c D G A H0 sg n0 M x cells slots (pc + 1) lv ((1, v) :: st) h) : Wq p l e R s m args below meth c D G A H0 sg n0 M x cells slots pc lv st h :=
  r_pure (v := (1, v)) hr (fun hx hb _ _ _ k => lv_lconst hx hb hd hv k) kk
theorem r_ldc {i : Nat} {v : Int} (hd : decode M.1 pc = .ok (.ldc i, 2)) (hr : R32 v) (hw : Cond.constant M.2.2.1 i (Int32.ofInt v) ∈ wsL_law) (kk : Wq p l e R s m args below meth c D G A H0 sg n0 M x cells slots (pc + 2) lv ((0, v) :: st) h) : Wq p l e R s m args below meth c D G A H0 sg n0 M x cells slots pc lv st h :=
  r_pure (v := (0, v)) hr (fun hx hb ho hts _ k => lv_ldc hx hb ho (hts _ hw) hd k) kk
theorem r_ldc2 {i : Nat} {v : Int} (hd : decode M.1 pc = .ok (.ldc2_w i, 3)) (hr : R64 v) (hw : Cond.constantLong M.2.2.1 i (Int64.ofInt v) ∈ wsL_law) (kk : Wq p l e R s m args below meth c D G A H0 sg n0 M x cells slots (pc + 3) lv ((1, v) :: st) h) : Wq p l e R s m args below meth c D G A H0 sg n0 M x cells slots pc lv st h :=
  r_pure (v := (1, v)) hr (fun hx hb ho hts _ k => lv_ldc2 hx hb ho (hts _ hw) hd k) kk
theorem r_iload_n {k : Fin 4} {i : Nat} {v : vV} (hd : decode M.1 pc = .ok (.iload_n k, 1)) (hi : (k : Nat) = i) (j : Nat) (hj : lv[j]? = some (i, v)) (hv : v.1 = 0 ∨ v.1 = 2) (kk : Wq p l e R s m args below meth c D G A H0 sg n0 M x cells slots (pc + 1) lv (v :: st) h) : Wq p l e R s m args below meth c D G A H0 sg n0 M x cells slots pc lv st h := by
  obtain ⟨t, y⟩ := v
  intro hC hh hn hlv hst H locs ls hw hS hls
  have k2 := kk hC hh hn hlv (stc (hlv _ (List.mem_of_getElem? hj)) hst) H locs ls hw hS hls
  rcases hv with e | e <;> (dsimp only at e; subst e; exact lv_iload_n hC.1 hC.2.1 hd hi (lvg hls hj) k2)
theorem r_iload {i : Nat} {v : vV} (hd : decode M.1 pc = .ok (.iload i, 2)) (j : Nat) (hj : lv[j]? = some (i, v)) (hv : v.1 = 0 ∨ v.1 = 2) (kk : Wq p l e R s m args below meth c D G A H0 sg n0 M x cells slots (pc + 2) lv (v :: st) h) : Wq p l e R s m args below meth c D G A H0 sg n0 M x cells slots pc lv st h := by
  obtain ⟨t, y⟩ := v
  intro hC hh hn hlv hst H locs ls hw hS hls
  have k2 := kk hC hh hn hlv (stc (hlv _ (List.mem_of_getElem? hj)) hst) H locs ls hw hS hls
  rcases hv with e | e <;> (dsimp only at e; subst e; exact lv_iload hC.1 hC.2.1 hd (lvg hls hj) k2)
theorem r_lload_n {k : Fin 4} {i : Nat} {v : Int} (hd : decode M.1 pc = .ok (.lload_n k, 1)) (hi : (k : Nat) = i) (j : Nat) (hj : lv[j]? = some (i, (1, v))) (kk : Wq p l e R s m args below meth c D G A H0 sg n0 M x cells slots (pc + 1) lv ((1, v) :: st) h) : Wq p l e R s m args below meth c D G A H0 sg n0 M x cells slots pc lv st h := by
  intro hC hh hn hlv hst H locs ls hw hS hls
  exact lv_lload_n hC.1 hC.2.1 hd hi (lvg hls hj) (kk hC hh hn hlv (stc (hlv _ (List.mem_of_getElem? hj)) hst) H locs ls hw hS hls)
theorem r_lload {i : Nat} {v : Int} (hd : decode M.1 pc = .ok (.lload i, 2)) (j : Nat) (hj : lv[j]? = some (i, (1, v))) (kk : Wq p l e R s m args below meth c D G A H0 sg n0 M x cells slots (pc + 2) lv ((1, v) :: st) h) : Wq p l e R s m args below meth c D G A H0 sg n0 M x cells slots pc lv st h := by
  intro hC hh hn hlv hst H locs ls hw hS hls
  exact lv_lload hC.1 hC.2.1 hd (lvg hls hj) (kk hC hh hn hlv (stc (hlv _ (List.mem_of_getElem? hj)) hst) H locs ls hw hS hls)
/-- a reference is null, or a cell -/
theorem cv_ref (ad : Nat → Nat) {v : vV} (h : 3 ≤ v.1) : cv ad v = .null ∨ cv ad v = .ref (ad v.2.toNat) := by
  obtain ⟨t, y⟩ := v
  match t, h with
  | t + 3, _ =>
    rw [cv_ge]
    split
    · exact Or.inl rfl
    · exact Or.inr rfl
theorem cv_refn (ad : Nat → Nat) {t : Nat} {y : Int} (h : 3 ≤ t) (hy : 0 ≤ y) : cv ad (t, y) = .ref (ad y.toNat) := by
  match t, h with
  | t + 3, _ =>
    rw [cv_ge]
    rw [if_neg (by omega)]
theorem hT_ref {n : Int} {t : Nat} {y : Int} (ht : 3 ≤ t) (h : hT n t y) : (100 ≤ t ∧ y = -1) ∨ (0 ≤ y ∧ y < n ∧ kd y.toNat = t % 100) ∨ (90 ≤ t ∧ t < 100 ∧ y = 910 + (t : Int)) := by
  match t, ht with
  | t + 3, _ => exact h
theorem r_aload_n {k : Fin 4} {i : Nat} {v : vV} (hd : decode M.1 pc = .ok (.aload_n k, 1)) (hi : (k : Nat) = i) (j : Nat) (hj : lv[j]? = some (i, v)) (hv : 3 ≤ v.1) (kk : Wq p l e R s m args below meth c D G A H0 sg n0 M x cells slots (pc + 1) lv (v :: st) h) : Wq p l e R s m args below meth c D G A H0 sg n0 M x cells slots pc lv st h := by
  intro hC hh hn hlv hst H locs ls hw hS hls
  have k2 := kk hC hh hn hlv (stc (hlv _ (List.mem_of_getElem? hj)) hst) H locs ls hw hS hls
  have hl := lvg hls hj
  rw [List.map_cons] at k2
  rcases cv_ref G.1 hv with e | e
  · rw [e] at hl k2; exact lv_aload_nN hC.1 hC.2.1 hd hi hl k2
  · rw [e] at hl k2; exact lv_aload_n hC.1 hC.2.1 hd hi hl k2
theorem r_aload {i : Nat} {v : vV} (hd : decode M.1 pc = .ok (.aload i, 2)) (j : Nat) (hj : lv[j]? = some (i, v)) (hv : 3 ≤ v.1) (kk : Wq p l e R s m args below meth c D G A H0 sg n0 M x cells slots (pc + 2) lv (v :: st) h) : Wq p l e R s m args below meth c D G A H0 sg n0 M x cells slots pc lv st h := by
  intro hC hh hn hlv hst H locs ls hw hS hls
  have k2 := kk hC hh hn hlv (stc (hlv _ (List.mem_of_getElem? hj)) hst) H locs ls hw hS hls
  have hl := lvg hls hj
  rw [List.map_cons] at k2
  rcases cv_ref G.1 hv with e | e
  · rw [e] at hl k2; exact lv_aloadN hC.1 hC.2.1 hd hl k2
  · rw [e] at hl k2; exact lv_aload hC.1 hC.2.1 hd hl k2
end CORE
