/-! CONSTRUCTORS: cells are made; the addresses are found on the way -/
def agG (n0 n : Int) (G G0 : gG) : Prop := (∀ k : Nat, (k : Int) < n0 ∨ n ≤ (k : Int) → G.1 k = G0.1 k) ∧ G.2 = G0.2
def qC (D : va_G) (G0 : gG) (A : Nat → Prop) (sg : Bool) (n0 : Int) (x : Option vV × hH) : Array Value → State → Outcome → State → Prop := fun a s o t => ∃ G : gG, agG n0 (nn x.2) G G0 ∧ qX D G A sg n0 x a s o t
def Wc (p : Program) (l : Launch) (e : Env) (R : Room) (s : State) (m : MethodId) (args : Array Value) (below : List Frame) (meth : Method) (c : Code) (D : va_G) (G G0 : gG) (A : Nat → Prop) (H0 : Heap) (sg : Bool) (n0 : Int) (M : mM) (x : Option vV × hH) (cells slots : Nat) (pc : Nat) (lv : List (Nat × vV)) (st : List vV) (h : hH) : Prop :=
  cxOk p R s m args meth c D G A H0 M → hOk sg h → ((agG n0 (nn h) G G0 ∧ (∀ q : Nat, A q → (∃ k : Nat, (k : Int) < n0 ∧ q = G0.1 k) ∨ H0.size ≤ q)) ∧ n0 ≤ nn h) → (∀ q ∈ lv, hT (nn h) q.2.1 q.2.2) → (∀ q ∈ st, hT (nn h) q.1 q.2) → ∀ (H : Heap) (locs : List Loc) (ls : Array Slot), wOk D G A h H → va_S A H0 H locs → lv_has ls M.2.1 (lv.map (fun q => (q.1, cv G.1 q.2))) →
    W p l e R s m args below meth c H locs cells slots (MQ below (qC D G0 A sg n0 x) args s M.2.2.2.2.2.2.2.1 M.2.2.2.2.2.2.2.2 A) (F0 m pc ls (st.map (cv G.1)))
section CTOR
variable {p : Program} {l : Launch} {e : Env} {R : Room} {s : State} {m : MethodId} {args : Array Value} {below : List Frame} {meth : Method} {c : Code} {D : va_G} {G G0 : gG} {A : Nat → Prop} {H0 : Heap} {sg : Bool} {n0 : Int} {M : mM} {x : Option vV × hH} {cells slots : Nat} {pc : Nat} {lv : List (Nat × vV)} {st : List vV} {h : hH}
theorem c_sub (ks : List Nat) {lv' : List (Nat × vV)} (hl : ks.filterMap (fun k => lv[k]?) = lv') (kk : Wc p l e R s m args below meth c D G G0 A H0 sg n0 M x cells slots pc lv' st h) : Wc p l e R s m args below meth c D G G0 A H0 sg n0 M x cells slots pc lv st h := by
  intro hC hh hn hlv hst H locs ls hw hS hls
  refine kk hC hh hn (fun q hq => ?_) hst H locs ls hw hS ?_
  · subst hl
    obtain ⟨k, -, hk⟩ := List.mem_filterMap.mp hq
    exact hlv q (List.mem_of_getElem? hk)
  · refine lv_sub hls ks ?_
    subst hl
    unfold lv_pick
    rw [List.map_filterMap]
    congr 1
    funext k
    simp [List.getElem?_map]
theorem c_pure {v : vV} {pc' : Nat} (hv : hT (nn h) v.1 v.2) (step : ∀ {Q : State → Prop} {H : Heap} {locs : List Loc} {ls : Array Slot}, p.tables.exec = Jvm.exec → c.code = M.1 → s.vm.findClass M.2.2.1 = some m.cls → (∀ w ∈ wsL_law, w.before args s = true) → lv_has ls M.2.1 (lv.map (fun q => (q.1, cv G.1 q.2))) →
      W p l e R s m args below meth c H locs cells slots Q (F0 m pc' ls (cv G.1 v :: st.map (cv G.1))) → W p l e R s m args below meth c H locs cells slots Q (F0 m pc ls (st.map (cv G.1))))
    (kk : Wc p l e R s m args below meth c D G G0 A H0 sg n0 M x cells slots pc' lv (v :: st) h) : Wc p l e R s m args below meth c D G G0 A H0 sg n0 M x cells slots pc lv st h := by
  intro hC hh hn hlv hst H locs ls hw hS hls
  exact step hC.1 hC.2.1 hC.2.2.2.1 hC.2.2.2.2.2.2.2.2.1 hls (kk hC hh hn hlv (stc hv hst) H locs ls hw hS hls)
theorem c_iconst {n : Int} (hd : decode M.1 pc = .ok (.iconst n, 1)) (hr : R32 n) (kk : Wc p l e R s m args below meth c D G G0 A H0 sg n0 M x cells slots (pc + 1) lv ((0, n) :: st) h) : Wc p l e R s m args below meth c D G G0 A H0 sg n0 M x cells slots pc lv st h :=
  c_pure (v := (0, n)) hr (fun hx hb _ _ _ k => lv_iconst hx hb hd rfl k) kk
theorem c_sipush {n : Int} (hd : decode M.1 pc = .ok (.sipush n, 3)) (hr : R32 n) (hv : (Int16.ofInt n).toInt32 = Int32.ofInt n) (kk : Wc p l e R s m args below meth c D G G0 A H0 sg n0 M x cells slots (pc + 3) lv ((0, n) :: st) h) : Wc p l e R s m args below meth c D G G0 A H0 sg n0 M x cells slots pc lv st h :=
  c_pure (v := (0, n)) hr (fun hx hb _ _ _ k => lv_sipush hx hb hd hv k) kk
theorem c_bipush {n : Int} (hd : decode M.1 pc = .ok (.bipush n, 2)) (hr : R32 n) (hv : (Int8.ofInt n).toInt32 = Int32.ofInt n) (kk : Wc p l e R s m args below meth c D G G0 A H0 sg n0 M x cells slots (pc + 2) lv ((0, n) :: st) h) : Wc p l e R s m args below meth c D G G0 A H0 sg n0 M x cells slots pc lv st h :=
  c_pure (v := (0, n)) hr (fun hx hb _ _ _ k => lv_bipush hx hb hd hv k) kk
theorem c_lconst {n : Fin 2} {v : Int} (hd : decode M.1 pc = .ok (.lconst n, 1)) (hr : R64 v) (hv : Int64.ofNat (n : Nat) = Int64.ofInt v) (kk : Wc p l e R s m args below meth c D G G0 A H0 sg n0 M x cells slots (pc + 1) lv ((1, v) :: st) h) : Wc p l e R s m args below meth c D G G0 A H0 sg n0 M x cells slots pc lv st h :=
  c_pure (v := (1, v)) hr (fun hx hb _ _ _ k => lv_lconst hx hb hd hv k) kk
theorem c_ldc2 {i : Nat} {v : Int} (hd : decode M.1 pc = .ok (.ldc2_w i, 3)) (hr : R64 v) (hw : Cond.constantLong M.2.2.1 i (Int64.ofInt v) ∈ wsL_law) (kk : Wc p l e R s m args below meth c D G G0 A H0 sg n0 M x cells slots (pc + 3) lv ((1, v) :: st) h) : Wc p l e R s m args below meth c D G G0 A H0 sg n0 M x cells slots pc lv st h :=
  c_pure (v := (1, v)) hr (fun hx hb ho hts _ k => lv_ldc2 hx hb ho (hts _ hw) hd k) kk
theorem c_iload_n {k : Fin 4} {i : Nat} {v : vV} (hd : decode M.1 pc = .ok (.iload_n k, 1)) (hi : (k : Nat) = i) (j : Nat) (hj : lv[j]? = some (i, v)) (hv : v.1 = 0 ∨ v.1 = 2) (kk : Wc p l e R s m args below meth c D G G0 A H0 sg n0 M x cells slots (pc + 1) lv (v :: st) h) : Wc p l e R s m args below meth c D G G0 A H0 sg n0 M x cells slots pc lv st h := by
  obtain ⟨t, y⟩ := v
  intro hC hh hn hlv hst H locs ls hw hS hls
  have k2 := kk hC hh hn hlv (stc (hlv _ (List.mem_of_getElem? hj)) hst) H locs ls hw hS hls
  rcases hv with e | e <;> (dsimp only at e; subst e; exact lv_iload_n hC.1 hC.2.1 hd hi (lvg hls hj) k2)
theorem c_aload_n {k : Fin 4} {i : Nat} {v : vV} (hd : decode M.1 pc = .ok (.aload_n k, 1)) (hi : (k : Nat) = i) (j : Nat) (hj : lv[j]? = some (i, v)) (hv : 3 ≤ v.1) (kk : Wc p l e R s m args below meth c D G G0 A H0 sg n0 M x cells slots (pc + 1) lv (v :: st) h) : Wc p l e R s m args below meth c D G G0 A H0 sg n0 M x cells slots pc lv st h := by
  intro hC hh hn hlv hst H locs ls hw hS hls
  have k2 := kk hC hh hn hlv (stc (hlv _ (List.mem_of_getElem? hj)) hst) H locs ls hw hS hls
  have hl := lvg hls hj
  rw [List.map_cons] at k2
  rcases cv_ref G.1 hv with e | e
  · rw [e] at hl k2; exact lv_aload_nN hC.1 hC.2.1 hd hi hl k2
  · rw [e] at hl k2; exact lv_aload_n hC.1 hC.2.1 hd hi hl k2
theorem c_lload_n {k : Fin 4} {i : Nat} {v : Int} (hd : decode M.1 pc = .ok (.lload_n k, 1)) (hi : (k : Nat) = i) (j : Nat) (hj : lv[j]? = some (i, (1, v))) (kk : Wc p l e R s m args below meth c D G G0 A H0 sg n0 M x cells slots (pc + 1) lv ((1, v) :: st) h) : Wc p l e R s m args below meth c D G G0 A H0 sg n0 M x cells slots pc lv st h := by
  intro hC hh hn hlv hst H locs ls hw hS hls
  exact lv_lload_n hC.1 hC.2.1 hd hi (lvg hls hj) (kk hC hh hn hlv (stc (hlv _ (List.mem_of_getElem? hj)) hst) H locs ls hw hS hls)
theorem c_istore_n {k : Fin 4} {i : Nat} {v : vV} {lv' : List (Nat × vV)} (hd : decode M.1 pc = .ok (.istore_n k, 1)) (hi : (k : Nat) = i) (hv : v.1 = 0 ∨ v.1 = 2) (hn9 : i < M.2.1) (hl : (i, v) :: lv.filter (fl1 i) = lv') (kk : Wc p l e R s m args below meth c D G G0 A H0 sg n0 M x cells slots (pc + 1) lv' st h) : Wc p l e R s m args below meth c D G G0 A H0 sg n0 M x cells slots pc lv (v :: st) h := by
  obtain ⟨t, y⟩ := v
  intro hC hh hn hlv hst H locs ls hw hS hls
  have hv9 := hst _ List.mem_cons_self
  have hm := lvm (G := G) (v := (t, y)) (fl1 i) (fun q => !(q.1 == i) && !(q.1 + 1 == i && q.2.category == 2)) (fun q => by simp only [fl1, cv_cat]) hl
  rcases hv with e9 | e9 <;> (dsimp only at e9; subst e9; exact lv_istore_n hC.1 hC.2.1 hd hi hls hn9 hm (fun ls' hls' => kk hC hh hn (lvc hv9 hlv _ hl) (fun q hq => hst q (List.mem_cons_of_mem _ hq)) H locs ls' hw hS hls'))
theorem c_astore_n {k : Fin 4} {i : Nat} {v : vV} {lv' : List (Nat × vV)} (hd : decode M.1 pc = .ok (.astore_n k, 1)) (hi : (k : Nat) = i) (hv : 3 ≤ v.1) (hn9 : i < M.2.1) (hl : (i, v) :: lv.filter (fl1 i) = lv') (kk : Wc p l e R s m args below meth c D G G0 A H0 sg n0 M x cells slots (pc + 1) lv' st h) : Wc p l e R s m args below meth c D G G0 A H0 sg n0 M x cells slots pc lv (v :: st) h := by
  intro hC hh hn hlv hst H locs ls hw hS hls
  have hv9 := hst _ List.mem_cons_self
  have hm := lvm (G := G) (v := v) (fl1 i) (fun q => !(q.1 == i) && !(q.1 + 1 == i && q.2.category == 2)) (fun q => by simp only [fl1, cv_cat]) hl
  rw [List.map_cons]
  rcases cv_ref G.1 hv with e9 | e9
  · rw [e9] at hm ⊢; exact lv_astore_nN hC.1 hC.2.1 hd hi hls hn9 hm (fun ls' hls' => kk hC hh hn (lvc hv9 hlv _ hl) (fun q hq => hst q (List.mem_cons_of_mem _ hq)) H locs ls' hw hS hls')
  · rw [e9] at hm ⊢; exact lv_astore_n hC.1 hC.2.1 hd hi hls hn9 hm (fun ls' hls' => kk hC hh hn (lvc hv9 hlv _ hl) (fun q hq => hst q (List.mem_cons_of_mem _ hq)) H locs ls' hw hS hls')
theorem c_iinc {i k : Nat} {n v : Int} {lv' : List (Nat × vV)} (hd : decode M.1 pc = .ok (.iinc i n, 3)) (hk : lv[k]? = some (i, (0, v))) (hn9 : i < M.2.1) (hl : (i, ((0, w32 (v + n)) : vV)) :: lv.filter (fl1 i) = lv') (kk : Wc p l e R s m args below meth c D G G0 A H0 sg n0 M x cells slots (pc + 3) lv' st h) : Wc p l e R s m args below meth c D G G0 A H0 sg n0 M x cells slots pc lv st h := by
  intro hC hh hn hlv hst H locs ls hw hS hls
  have hm := lvm (G := G) (v := (0, w32 (v + n))) (fl1 i) (fun q => !(q.1 == i) && !(q.1 + 1 == i && q.2.category == 2)) (fun q => by simp only [fl1, cv_cat]) hl
  refine lv_iinc (k := k) (v := Int32.ofInt (w32 (v + n))) hC.1 hC.2.1 hd hls (by rw [List.getElem?_map, hk]; rfl) (by rw [w32_ofInt, Int32.ofInt_add]) hn9 hm (fun ls' hls' => kk hC hh hn (lvc (v := (0, w32 (v + n))) (R32_w _) hlv _ hl) hst H locs ls' hw hS hls')
theorem c_dup {v : vV} (hd : decode M.1 pc = .ok (.dup, 1)) (hv : v.1 ≠ 1) (kk : Wc p l e R s m args below meth c D G G0 A H0 sg n0 M x cells slots (pc + 1) lv (v :: v :: st) h) : Wc p l e R s m args below meth c D G G0 A H0 sg n0 M x cells slots pc lv (v :: st) h := by
  intro hC hh hn hlv hst H locs ls hw hS hls
  exact lv_dup hC.1 hC.2.1 hd (cv_cat1 _ hv) (kk hC hh hn hlv (stc (hst v List.mem_cons_self) hst) H locs ls hw hS hls)
theorem c_goto {off : Int} {tgt : Nat} (hd : decode M.1 pc = .ok (.goto off, 3)) (ht : (pc : Int) + off = (tgt : Int)) (kk : Wc p l e R s m args below meth c D G G0 A H0 sg n0 M x cells slots tgt lv st h) : Wc p l e R s m args below meth c D G G0 A H0 sg n0 M x cells slots pc lv st h := by
  intro hC hh hn hlv hst H locs ls hw hS hls
  exact lv_goto hC.1 hC.2.1 hd ht (kk hC hh hn hlv hst H locs ls hw hS hls)
theorem c_icmp_ge {a b : Int} {off : Int} {tgt : Nat} (hd : decode M.1 pc = .ok (.if_icmp .ge off, 3)) (ht : (pc : Int) + off = (tgt : Int)) (kt : ¬ a < b → Wc p l e R s m args below meth c D G G0 A H0 sg n0 M x cells slots tgt lv st h) (kk : a < b → Wc p l e R s m args below meth c D G G0 A H0 sg n0 M x cells slots (pc + 3) lv st h) : Wc p l e R s m args below meth c D G G0 A H0 sg n0 M x cells slots pc lv ((0, b) :: (0, a) :: st) h := by
  intro hC hh hn hlv hst H locs ls hw hS hls
  have ha : R32 a := hst _ (List.mem_cons_of_mem _ List.mem_cons_self)
  have hb : R32 b := hst _ List.mem_cons_self
  exact lv_icmp_ge hC.1 hC.2.1 hd ht (fun z => kt (Int.not_lt.mpr ((ofI_le hb ha).mp z)) hC hh hn hlv (fun q hq => hst q (List.mem_cons_of_mem _ (List.mem_cons_of_mem _ hq))) H locs ls hw hS hls) (fun z => kk (Int.not_le.mp (fun y => z ((ofI_le hb ha).mpr y))) hC hh hn hlv (fun q hq => hst q (List.mem_cons_of_mem _ (List.mem_cons_of_mem _ hq))) H locs ls hw hS hls)
theorem c_get (ci k : Nat) {T : u_T} {C : String} {N i : Nat} {ref : String} {o : Int} {w : vV} (hc : vwCl[ci]? = some (C, T, N)) (hci : ci < 13) (hN : nf ci = N) (hk : k < N) (hin : ∀ w ∈ u_ws C T N, w ∈ wsL_law) (hlink : Cond.fieldLink M.2.2.1 i ref (T k).2.1 (T k).2.2.1 ∈ wsL_law) (hsame : (T k).1 = ref)
    (hd : decode M.1 pc = .ok (.getfield i, 3)) (hw9 : (fT sg ci k, h o k) = w) (kk : Wc p l e R s m args below meth c D G G0 A H0 sg n0 M x cells slots (pc + 3) lv (w :: st) h) : Wc p l e R s m args below meth c D G G0 A H0 sg n0 M x cells slots pc lv ((10 + ci, o) :: st) h := by
  subst hw9
  intro hC hh hn hlv hst H locs ls hw hS hls
  have ho : hT (nn h) (10 + ci) o := hst _ List.mem_cons_self
  obtain ⟨h0, h1, h2⟩ := kOk (by omega) (by omega) ho
  have k2 := kk hC hh hn hlv (stc (v := (fT sg ci k, h o k)) (hh.fld hci (by rw [hN]; exact hk) ho) (fun q hq => hst q (List.mem_cons_of_mem _ hq))) H locs ls hw hS hls
  have hx := hC.2.2.2.2.2.2.2.2.1
  rw [List.map_cons, cv_refn G.1 (by omega) h0]
  refine va_get (D := D) (ci := ci) (fs := (List.range (nf ci)).map (fun j => cv G.1 (fT true ci j, h o j))) (C := C) (T := T) (N := N) hC.1 hC.2.1 hx hin hC.2.2.2.1 hC.2.2.2.2.2.2.2.2.2.2.1 hw.1 o.toNat (by rw [wld_get h0 h1, h2, cel_obj hci]) hc k hk (hx _ hlink) (fun _ h9 => by rw [← hsame]; exact h9) (v := cv G.1 (fT sg ci k, h o k)) ?_ hd k2
  rw [List.getElem?_map, List.getElem?_range (by rw [hN]; exact hk), Option.map_some]
  congr 1
  cases sg with
  | true => rfl
  | false =>
    simp only [fT]
    generalize (fTl.getD ci []).getD k 0 = t
    rcases Nat.lt_or_ge t 10 with z | z
    · rw [if_neg (by simp), if_neg (by omega)]
    · rw [if_neg (by simp), if_pos ⟨trivial, z⟩]
      match t, z with
      | t + 3, _ => rfl
theorem c_put (ci k : Nat) {T : u_T} {C : String} {N i t : Nat} {ref : String} {o v : Int} {ty : FieldType} (ty0 : Nat → FieldType) (hty0 : ∀ k, k < N → parseFieldDescriptor (T k).2.2.1 = some (ty0 k)) (hnm : ∀ a, a < N → ∀ b, b < N → a ≠ b → (T a).2.1 ≠ (T b).2.1) (hc : vwCl[ci]? = some (C, T, N)) (hci : ci < 13) (hN : nf ci = N) (hk : k < N) (hin : ∀ w ∈ u_ws C T N, w ∈ wsL_law) (hlink : Cond.fieldLink M.2.2.1 i ref (T k).2.1 (T k).2.2.1 ∈ wsL_law) (hsame : (T k).1 = ref)
    (hfin : (T k).2.2.2 = false) (hd9 : parseFieldDescriptor (T k).2.2.1 = some ty) (ht90 : t < 90) (hft : fT true ci k = t) (hty : (t = 0 ∧ ty = .int) ∨ (t = 1 ∧ ty = .long) ∨ (t = 2 ∧ ty = .boolean) ∨ (3 ≤ t ∧ ((∃ z, ty = .object z) ∨ ∃ z, ty = .array z)))
    (hd : decode M.1 pc = .ok (.putfield i, 3)) (kk : Wc p l e R s m args below meth c D G G0 A H0 sg n0 M x cells slots (pc + 3) lv st (hup h o k v)) : Wc p l e R s m args below meth c D G G0 A H0 sg n0 M x cells slots pc lv ((t, v) :: (10 + ci, o) :: st) h := by
  intro hC hh hn hlv hst H locs ls hw hS hls
  have ho : hT (nn h) (10 + ci) o := hst _ (List.mem_cons_of_mem _ List.mem_cons_self)
  have hv : hT (nn h) t v := hst _ List.mem_cons_self
  obtain ⟨h0, h1, h2⟩ := kOk (by omega) (by omega) ho
  have hx := hC.2.2.2.2.2.2.2.2.1
  have hnn := nn_hup (h := h) (j := (k : Int)) (v := v) h0
  rw [List.map_cons, List.map_cons, cv_refn G.1 (show 3 ≤ 10 + ci by omega) h0]
  refine va_put (D := D) (ci := ci) (fs := (List.range (nf ci)).map (fun j => cv G.1 (fT true ci j, h o j))) (C := C) (T := T) (N := N) hC.1 hC.2.1 hx hin ty0 hty0 hnm hC.2.2.2.1 hC.2.2.2.2.2.2.2.2.2.2.1 hw.1 hw.2 hS o.toNat (by rw [wld_get h0 h1, h2, cel_obj hci]) hc k hk (hx _ hlink) (fun _ h9 => by rw [← hsame]; exact h9) hfin hd9 (nar_ok hty hv).1 (nar_ok hty hv).2 (by simp; rw [hN]; exact hk) hd (fun H1 locs1 hP hD hS1 => ?_)
  have hcel : (G.1 o.toNat, Sum.inr (ci, ((List.range (nf ci)).map (fun j => cv G.1 (fT true ci j, h o j))).set k (cv G.1 (t, v)))) = ((G.1 o.toNat, cel G (kd o.toNat) (hup h o k v o)) : Nat × va_E) := by
    rw [← hft, fld_set (by rw [hN]; exact hk), h2, cel_obj hci]
  rw [hcel, wld_set h0 h1] at hP hD
  exact kk hC (hh.putF hci ho (hT_wk ht90 hft hv)) (by rw [hnn]; exact hn) (by rw [hnn]; exact hlv) (by rw [hnn]; exact fun q hq => hst q (List.mem_cons_of_mem _ (List.mem_cons_of_mem _ hq))) H1 locs1 ls ⟨hP, hD⟩ hS1 hls
theorem c_alen {t : Nat} {o : Int} (ht : 50 ≤ t) (ht2 : t < 56) (hd : decode M.1 pc = .ok (.arraylength, 1)) (kk : Wc p l e R s m args below meth c D G G0 A H0 sg n0 M x cells slots (pc + 1) lv ((0, h o (-1)) :: st) h) : Wc p l e R s m args below meth c D G G0 A H0 sg n0 M x cells slots pc lv ((t, o) :: st) h := by
  intro hC hh hn hlv hst H locs ls hw hS hls
  have ho : hT (nn h) t o := hst _ List.mem_cons_self
  obtain ⟨h0, h1, h2⟩ := kOk (by omega) (by omega) ho
  have hl := hh.len ht (by omega) ho
  have k2 := kk hC hh hn hlv (stc (v := (0, h o (-1))) ((R32_iff _).mpr (by omega)) (fun q hq => hst q (List.mem_cons_of_mem _ hq))) H locs ls hw hS hls
  rw [List.map_cons, cv_refn G.1 (by omega) h0]
  obtain ⟨ty, hty⟩ := ty_at (G := G) ht ht2
  obtain ⟨z, hz⟩ := cel_any (G := G) (f := h o) ht ht2
  refine va_alen (D := D) hC.1 hC.2.1 hC.2.2.2.2.2.2.2.2.2.2.1 hw.1 o.toNat (t - 50) (by rw [wld_get h0 h1, h2, hz]) hty ?_ hd k2
  dsimp only
  have hr9 : R32 (h o (-1)) := (R32_iff _).mpr (by omega)
  have e9 := ofNat_toNatClampNeg32 (Int32.ofInt (h o (-1))) (by rw [show (0 : Int32) = Int32.ofInt 0 from rfl, ofI_lt hr9 (by decide)]; omega)
  rw [Int32.toNatClampNeg, hr9.toI] at e9
  exact e9
theorem c_last {o j v : Int} {h1 : hH} (hd : decode M.1 pc = .ok (.lastore, 1)) (hg : aput h o j (v) = some h1) (kk : Wc p l e R s m args below meth c D G G0 A H0 sg n0 M x cells slots (pc + 1) lv st h1) : Wc p l e R s m args below meth c D G G0 A H0 sg n0 M x cells slots pc lv ((1, v) :: (0, j) :: (51, o) :: st) h := by
  obtain ⟨hj0, hj1, rfl⟩ := aput_some hg
  intro hC hh hn hlv hst H locs ls hw hS hls
  have ho : hT (nn h) 51 o := hst _ (List.mem_cons_of_mem _ (List.mem_cons_of_mem _ List.mem_cons_self))
  have hj : R32 j := hst _ (List.mem_cons_of_mem _ List.mem_cons_self)
  have hv : hT (nn h) 1 v := hst _ List.mem_cons_self
  obtain ⟨h0, h1, h2⟩ := kOk (by omega) (by omega) ho
  obtain ⟨hin, hcl⟩ := rIn hj hj0 hj1
  have hnn := nn_hup (h := h) (j := j) (v := v) h0
  have hlen9 : hup h o j (v) o (-1) = h o (-1) := by simp [hup]; omega
  rw [List.map_cons, List.map_cons, List.map_cons, cv_refn G.1 (show 3 ≤ 51 by omega) h0]
  refine va_last (D := D) (f := fun j => Int64.ofInt (h o (j : Nat))) (t0 := 1) hC.1 hC.2.1 hC.2.2.2.2.2.2.2.2.2.2.1 hw.1 hw.2 hS o.toNat (by rw [wld_get h0 h1, h2, cel_lon]) rfl hin hd (fun H1 locs1 hP hD hS1 => ?_)
  have hcel : (G.1 o.toNat, Sum.inl (G.2 51, (h o (-1)).toNat, .inr (.inl (vp_updL (fun j => Int64.ofInt (h o (j : Nat))) (Int32.ofInt j).toNatClampNeg (Int64.ofInt v))))) = ((G.1 o.toNat, cel G (kd o.toNat) (hup h o j (v) o)) : Nat × va_E) := by
    rw [h2, cel_lon, hlen9, hcl]
    congr 6
    funext i
    simp only [vp_updL, hup, true_and]
    by_cases hi : i = j.toNat
    · rw [if_pos hi, if_pos (by omega)]
    · rw [if_neg hi, if_neg (by omega)]
  rw [hcel, wld_set h0 h1] at hP hD
  exact kk hC (hh.putA (by omega) (by omega) ho hj0 hv) (by rw [hnn]; exact hn) (by rw [hnn]; exact hlv) (by rw [hnn]; exact (fun q hq => hst q (List.mem_cons_of_mem _ (List.mem_cons_of_mem _ (List.mem_cons_of_mem _ hq))))) H1 locs1 ls ⟨hP, hD⟩ hS1 hls
theorem c_put' (ci k : Nat) {T : u_T} {C : String} {N i t : Nat} {ref : String} {o k' v : Int} {ty : FieldType} {h1 : hH} (he : pput h o k' v = some h1) (hk' : k' = (k : Int)) (ty0 : Nat → FieldType) (hty0 : ∀ k, k < N → parseFieldDescriptor (T k).2.2.1 = some (ty0 k)) (hnm : ∀ a, a < N → ∀ b, b < N → a ≠ b → (T a).2.1 ≠ (T b).2.1) (hc : vwCl[ci]? = some (C, T, N)) (hci : ci < 13) (hN : nf ci = N) (hk : k < N) (hin : ∀ w ∈ u_ws C T N, w ∈ wsL_law) (hlink : Cond.fieldLink M.2.2.1 i ref (T k).2.1 (T k).2.2.1 ∈ wsL_law) (hsame : (T k).1 = ref)
    (hfin : (T k).2.2.2 = false) (hd9 : parseFieldDescriptor (T k).2.2.1 = some ty) (ht90 : t < 90) (hft : fT true ci k = t) (hty : (t = 0 ∧ ty = .int) ∨ (t = 1 ∧ ty = .long) ∨ (t = 2 ∧ ty = .boolean) ∨ (3 ≤ t ∧ ((∃ z, ty = .object z) ∨ ∃ z, ty = .array z)))
    (hd : decode M.1 pc = .ok (.putfield i, 3)) (kk : Wc p l e R s m args below meth c D G G0 A H0 sg n0 M x cells slots (pc + 3) lv st h1) : Wc p l e R s m args below meth c D G G0 A H0 sg n0 M x cells slots pc lv ((t, v) :: (10 + ci, o) :: st) h := by
  have e1 := Option.some.inj he
  subst e1
  subst hk'
  exact c_put ci k ty0 hty0 hnm hc hci hN hk hin hlink hsame hfin hd9 ht90 hft hty hd kk
theorem c_scast (n : Nat) {v w : vV} {st' : List vV} (hj : st[n]? = some v) (hv : ∀ ad, cv ad v = cv ad w) (hTT : hT (nn h) v.1 v.2 → hT (nn h) w.1 w.2) (hl : st.set n w = st') (kk : Wc p l e R s m args below meth c D G G0 A H0 sg n0 M x cells slots pc lv st' h) : Wc p l e R s m args below meth c D G G0 A H0 sg n0 M x cells slots pc lv st h := by
  subst hl
  intro hC hh hn hlv hst H locs ls hw hS hls
  have hn9 := (List.getElem?_eq_some_iff.mp hj).1
  have k2 := kk hC hh hn hlv (fun q hq => by
    rcases List.mem_or_eq_of_mem_set hq with z | z
    · exact hst q z
    · rw [z]; exact hTT (hst v (List.mem_of_getElem? hj))) H locs ls hw hS hls
  rw [List.map_set] at k2
  have e9 : (st.map (cv G.1)).set n (cv G.1 w) = st.map (cv G.1) := by
    apply List.ext_getElem?
    intro i
    by_cases hi : i = n
    · subst hi
      rw [List.getElem?_set_self (by rw [List.length_map]; exact hn9), List.getElem?_map, hj, Option.map_some, hv]
    · rw [List.getElem?_set_ne (Ne.symm hi)]
  rw [e9] at k2
  exact k2
theorem c_lcast (n : Nat) {i : Nat} {v w : vV} {lv' : List (Nat × vV)} (hj : lv[n]? = some (i, v)) (hv : ∀ ad, cv ad v = cv ad w) (hTT : hT (nn h) v.1 v.2 → hT (nn h) w.1 w.2) (hl : lv.set n (i, w) = lv') (kk : Wc p l e R s m args below meth c D G G0 A H0 sg n0 M x cells slots pc lv' st h) : Wc p l e R s m args below meth c D G G0 A H0 sg n0 M x cells slots pc lv st h := by
  subst hl
  intro hC hh hn hlv hst H locs ls hw hS hls
  have hn9 := (List.getElem?_eq_some_iff.mp hj).1
  refine kk hC hh hn (fun q hq => by
    rcases List.mem_or_eq_of_mem_set hq with z | z
    · exact hlv q z
    · rw [z]; exact hTT (hlv _ (List.mem_of_getElem? hj))) hst H locs ls hw hS ?_
  have e9 : (lv.set n (i, w)).map (fun q => (q.1, cv G.1 q.2)) = lv.map (fun q => (q.1, cv G.1 q.2)) := by
    rw [List.map_set]
    apply List.ext_getElem?
    intro j
    by_cases hi : j = n
    · subst hi
      rw [List.getElem?_set_self (by rw [List.length_map]; exact hn9), List.getElem?_map, hj, Option.map_some, hv]
    · rw [List.getElem?_set_ne (Ne.symm hi)]
  rw [e9]
  exact hls
theorem c_ldc2' {i : Nat} {v : Int} {z : Int64} (hd : decode M.1 pc = .ok (.ldc2_w i, 3)) (hz : Int64.ofInt v = z ∧ R64 v) (hw : Cond.constantLong M.2.2.1 i z ∈ wsL_law) (kk : Wc p l e R s m args below meth c D G G0 A H0 sg n0 M x cells slots (pc + 3) lv ((1, v) :: st) h) : Wc p l e R s m args below meth c D G G0 A H0 sg n0 M x cells slots pc lv st h :=
  c_ldc2 hd hz.2 (by rw [hz.1]; exact hw) kk
end CTOR
theorem kd_56 (k : Nat) : kd k < 56 := by
  have h9 : ∀ v ∈ lay, v < 56 := by decide +kernel
  unfold kd
  rw [List.getD_eq_getElem?_getD]
  cases hk : lay[k]? with
  | none => decide
  | some v => exact h9 v (List.mem_of_getElem? hk)
/-- what is new in a heap that has one cell more -/
def dfl (T : Nat) (b : Int) : Int := if T = 54 ∨ T = 55 then -1 else if 50 ≤ T then 0 else if 10 ≤ fT true (T - 10) b.toNat then -1 else 0
def alH (h : hH) (n : Int) (T : Nat) (len : Int) : hH := fun a b => if a = -1 ∧ b = 0 then n + 1 else if a = n then (if b = -1 then len else dfl T b) else h a b
def alc (h : hH) (n : Int) (T : Nat) (len : Int) : Option hH := if nn h = n ∧ 0 ≤ n ∧ n < lay.length ∧ kd n.toNat = T ∧ 0 ≤ len ∧ len < 100000 then some (alH h n T len) else none
theorem alc_some {h h1 : hH} {n : Int} {T : Nat} {len : Int} (hg : alc h n T len = some h1) : (nn h = n ∧ 0 ≤ n ∧ n < lay.length ∧ kd n.toNat = T ∧ 0 ≤ len ∧ len < 100000) ∧ h1 = alH h n T len := by
  unfold alc at hg
  split at hg
  · rename_i z; cases hg; exact ⟨z, rfl⟩
  · cases hg
def gup (G : gG) (n q : Nat) : gG := (fun k => if k = n then q else G.1 k, G.2)
theorem cv_gup {G : gG} {n q T : Nat} {x : Int} (hx : x < 0 ∨ x.toNat ≠ n) : cv (gup G n q).1 (T, x) = cv G.1 (T, x) := by
  match T with
  | 0 => rfl
  | 1 => rfl
  | 2 => rfl
  | T + 3 =>
    rw [cv_ge, cv_ge]
    rcases hx with z | z
    · rw [if_pos z, if_pos z]
    · simp only [gup, if_neg z]
theorem hT_gup {n : Int} {T : Nat} {x : Int} (hn : n < lay.length) (ht : 3 ≤ T) (h : hT n T x) : x < 0 ∨ x.toNat ≠ n.toNat := by
  have hl : lay.length = 225 := rfl
  rcases hT_ref (by omega) h with z | z | z <;> omega
theorem fT_ge {sg : Bool} {ci j : Nat} (h : 10 ≤ fT true ci j) : 10 ≤ fT sg ci j := by
  cases sg with
  | true => exact h
  | false =>
    simp only [fT] at h ⊢
    rw [if_neg (by simp)] at h
    rw [if_pos ⟨trivial, h⟩]
    omega
theorem cv_lt10 {a b : Nat → Nat} {T : Nat} {x : Int} (h : T < 3) : cv a (T, x) = cv b (T, x) := by
  match T, h with
  | 0, _ => rfl
  | 1, _ => rfl
  | 2, _ => rfl
theorem fT_sm {ci j : Nat} (h : ¬ 10 ≤ fT true ci j) : fT true ci j < 3 := by
  have h9 : ∀ l ∈ fTl, ∀ t ∈ l, t < 3 ∨ 10 ≤ t := by decide +kernel
  simp only [fT] at h ⊢
  rw [if_neg (by simp)] at h ⊢
  rw [List.getD_eq_getElem?_getD, List.getD_eq_getElem?_getD] at h ⊢
  cases h1 : fTl[ci]? with
  | none => simp
  | some l =>
    rw [h1] at h
    simp only [Option.getD_some] at h ⊢
    cases h2 : l[j]? with
    | none => simp
    | some t =>
      rw [h2] at h
      simp only [Option.getD_some] at h ⊢
      have := h9 l (List.mem_of_getElem? h1) t (List.mem_of_getElem? h2)
      omega
theorem fT_small {ci j : Nat} (h : ¬ 10 ≤ fT true ci j) : fT false ci j = fT true ci j := by
  have e : fT true ci j = (fTl.getD ci []).getD j 0 := by simp [fT]
  rw [e] at h ⊢
  unfold fT
  exact if_neg (fun z => h z.2)
theorem at_gup {sg : Bool} {D : va_G} {G : gG} {n : Int} {q : Nat} {k : Nat} {f : Int → Int} {H : Heap} (hn : n < lay.length) (hk : (k : Int) < n) (hc : cOk sg n (kd k) f) (h : va_at D vwCl (G.1 k, cel G (kd k) f) H) : va_at D vwCl ((gup G n.toNat q).1 k, cel (gup G n.toNat q) (kd k) f) H := by
  have e1 : (gup G n.toNat q).1 k = G.1 k := if_neg (by omega)
  rw [e1]
  by_cases h1 : kd k = 50 ∨ kd k = 52 ∨ kd k = 53
  · rw [cel_arr h1] at h ⊢; exact h
  · by_cases h2 : kd k = 51
    · rw [h2] at h ⊢; exact h
    · by_cases h3 : 54 ≤ kd k
      · have h4 : kd k = 54 ∨ kd k = 55 := by have := kd_lt k; have := kd_56 k; omega
        have hc' := hc
        unfold cOk at hc'
        rw [if_pos (by omega)] at hc'
        rw [cel_row h4] at h ⊢
        refine Eq.trans h ?_
        show some (vp_cell _ _) = some (vp_cell _ _)
        rw [vp_cell_q, vp_cell_q]
        congr 1
        unfold arrV
        congr 1
        apply Array.ext (by simp)
        intro i hi hi2
        have hi3 : i < (f (-1)).toNat := by simpa using hi
        have hv := hc'.2.2 (i : Int) (by omega) (by omega)
        have hz := hT_gup hn (by rcases h4 with e | e <;> rw [e] <;> decide) hv
        simp only [Array.getElem_ofFn]
        by_cases hs : f (i : Int) < 0
        · rw [if_pos hs, if_pos hs]
        · rw [if_neg hs, if_neg hs]
          have : (gup G n.toNat q).1 (f (i : Int)).toNat = G.1 (f (i : Int)).toNat := if_neg (by omega)
          rw [this]
      · have hc' := hc
        unfold cOk at hc'
        by_cases h5 : 50 ≤ kd k
        · omega
        · rw [if_neg h5] at hc'
          unfold cel at h ⊢
          rw [if_neg h1, if_neg h2, if_neg h3] at h ⊢
          have e2 : (List.range (nf (kd k - 10))).map (fun j => cv (gup G n.toNat q).1 (fT true (kd k - 10) j, f (j : Nat))) = (List.range (nf (kd k - 10))).map (fun j => cv G.1 (fT true (kd k - 10) j, f (j : Nat))) := by
            apply List.map_congr_left
            intro j hj
            have hj2 := List.mem_range.mp hj
            by_cases h10 : 10 ≤ fT true (kd k - 10) j
            · exact cv_gup (hT_gup hn (Nat.le_trans (by decide) (fT_ge h10)) (hc' j hj2))
            · exact cv_lt10 (fT_sm h10)
          rw [e2]
          exact h
theorem alH_off {h : hH} {n : Int} {T : Nat} {len : Int} {a : Int} (h1 : a ≠ n) (h2 : a ≠ -1) : alH h n T len a = h a := by
  funext b
  unfold alH
  rw [if_neg (by omega), if_neg h1]
theorem alH_nn {h : hH} {n : Int} {T : Nat} {len : Int} : nn (alH h n T len) = n + 1 := by
  unfold nn alH
  exact if_pos ⟨rfl, rfl⟩
theorem alH_at {h : hH} {n : Int} {T : Nat} {len : Int} (hn : 0 ≤ n) : alH h n T len n = fun b => if b = -1 then len else dfl T b := by
  funext b
  unfold alH
  rw [if_neg (by omega), if_pos rfl]
theorem hT_up {n : Int} {T : Nat} {x : Int} (h : hT n T x) : hT (n + 1) T x := by
  match T, h with
  | 0, h => exact h
  | 1, h => exact h
  | 2, h => exact h
  | T + 3, h =>
    rcases hT_ref (by omega) h with z | z | z
    · exact Or.inl z
    · exact Or.inr (Or.inl ⟨z.1, by omega, z.2.2⟩)
    · exact Or.inr (Or.inr z)
theorem cOk_up {sg : Bool} {n : Int} {T : Nat} {f : Int → Int} (h : cOk sg n T f) : cOk sg (n + 1) T f := by
  unfold cOk at h ⊢
  by_cases z : 50 ≤ T
  · rw [if_pos z] at h ⊢
    exact ⟨h.1, h.2.1, fun j h0 h1 => hT_up (h.2.2 j h0 h1)⟩
  · rw [if_neg z] at h ⊢
    exact fun j hj => hT_up (h j hj)
theorem hOk_al {h : hH} {n : Int} {T : Nat} {len : Int} (hh : hOk false h) (hn : nn h = n) (h0 : 0 ≤ n) (h1 : n < lay.length) (hk : kd n.toNat = T) (hl0 : 0 ≤ len) (hl1 : len < 100000) : hOk false (alH h n T len) := by
  refine ⟨by rw [alH_nn]; omega, by rw [alH_nn]; omega, fun k hk9 => ?_⟩
  rw [alH_nn] at hk9 ⊢
  by_cases hkn : (k : Int) = n
  · rw [hkn, alH_at h0]
    have hk2 : kd k = T := by rw [← hk]; congr 1; omega
    rw [hk2]
    unfold cOk
    by_cases z : 50 ≤ T
    · rw [if_pos z]
      dsimp only
      refine ⟨by rw [if_pos rfl]; exact hl0, by rw [if_pos rfl]; omega, fun j hj0 hj1 => ?_⟩
      rw [if_neg (by omega)]
      have h56 := kd_56 k
      rw [hk2] at h56
      have : T = 50 ∨ T = 51 ∨ T = 52 ∨ T = 53 ∨ T = 54 ∨ T = 55 := by omega
      rcases this with e | e | e | e | e | e <;> rw [e]
      · show R32 0; decide
      · show R64 0; decide
      · show R32 0; decide
      · exact Or.inl rfl
      · exact Or.inl ⟨by decide, rfl⟩
      · exact Or.inl ⟨by decide, rfl⟩
    · rw [if_neg z]
      dsimp only
      intro j hj
      rw [if_neg (by omega)]
      unfold dfl
      rw [if_neg (by omega), if_neg z]
      have ej : ((j : Int)).toNat = j := by omega
      rw [ej]
      by_cases h10 : 10 ≤ fT true (T - 10) j
      · rw [if_pos h10]
        have : 100 ≤ fT false (T - 10) j := by
          simp only [fT] at h10 ⊢
          rw [if_neg (by simp)] at h10
          rw [if_pos ⟨trivial, h10⟩]
          omega
        generalize fT false (T - 10) j = t at this
        match t, this with
        | t + 3, this => exact Or.inl ⟨this, rfl⟩
      · rw [if_neg h10]
        have h3 := fT_sm h10
        have : fT false (T - 10) j = fT true (T - 10) j := fT_small h10
        rw [this]
        generalize fT true (T - 10) j = t at h3
        match t, h3 with
        | 0, _ => show R32 0; decide
        | 1, _ => show R64 0; decide
        | 2, _ => exact Or.inl rfl
  · rw [alH_off hkn (by omega)]
    rw [← hn] at hk9 ⊢
    exact cOk_up (hh.2.2 k (by omega))
/-- the world with one cell more -/
theorem wld_al {D : va_G} {G : gG} {A : Nat → Prop} {h : hH} {n : Int} {T : Nat} {len : Int} {q : Nat} {H H1 : Heap} (hh : hOk false h) (hn : nn h = n) (h0 : 0 ≤ n) (h1 : n < lay.length) (hk : kd n.toNat = T) (hw : wOk D G A h H) (hq : q = H.size) (hA : A q) (hold : ∀ a : Nat, a < H.size → H1[a]? = H[a]?) (hnew : va_at D vwCl (q, cel (gup G n.toNat q) T (fun b => if b = -1 then len else dfl T b)) H1) : wOk D (gup G n.toNat q) A (alH h n T len) H1 := by
  have key : ∀ (k : Nat) (y : Nat × va_E), (wld (gup G n.toNat q) (alH h n T len))[k]? = some y → ((k : Int) < n ∧ y = ((gup G n.toNat q).1 k, cel (gup G n.toNat q) (kd k) (h k)) ∧ (gup G n.toNat q).1 k = G.1 k) ∨ ((k : Int) = n ∧ y = (q, cel (gup G n.toNat q) T (fun b => if b = -1 then len else dfl T b))) := by
    intro k y hy
    obtain ⟨hk1, hk2⟩ := wld_mem hy
    rw [alH_nn] at hk1
    by_cases hkn : (k : Int) = n
    · refine Or.inr ⟨hkn, ?_⟩
      rw [hk2, hkn, alH_at h0]
      have e1 : k = n.toNat := by omega
      have e2 : (gup G n.toNat q).1 k = q := if_pos e1
      rw [e2, e1, hk]
    · refine Or.inl ⟨by omega, ?_, if_neg (by omega)⟩
      rw [hk2, alH_off hkn (by omega)]
  have old : ∀ k : Nat, (k : Int) < n → (wld G h)[k]? = some (G.1 k, cel G (kd k) (h k)) := by
    intro k hk
    have := wld_get (G := G) (h := h) (k := (k : Int)) (by omega) (by omega)
    simpa using this
  have lt : ∀ k : Nat, (k : Int) < n → G.1 k < H.size := fun k hk => (hw.1 k _ (old k hk)).lt
  refine ⟨fun k y hy => ?_, ⟨fun i j y z hy hz e => ?_, fun k y hy => ?_⟩⟩
  · rcases key k y hy with ⟨a1, rfl, a3⟩ | ⟨a1, rfl⟩
    · have h2 := at_gup (G := G) (q := q) h1 a1 (by rw [← hn]; exact hh.2.2 k (by omega)) (hw.1 k _ (old k a1))
      exact h2.kept (hold _ (by rw [a3]; exact lt k a1))
    · exact hnew
  · rcases key i y hy with ⟨a1, rfl, a3⟩ | ⟨a1, rfl⟩ <;> rcases key j z hz with ⟨b1, rfl, b3⟩ | ⟨b1, rfl⟩
    · exact hw.2.1 i j _ _ (old i a1) (old j b1) (a3.symm.trans (e.trans b3))
    · have := lt i a1
      have e9 : G.1 i = q := a3.symm.trans e
      omega
    · have := lt j b1
      have e9 : q = G.1 j := e.trans b3
      omega
    · omega
  · rcases key k y hy with ⟨a1, rfl, a3⟩ | ⟨a1, rfl⟩
    · show A ((gup G n.toNat q).1 k)
      rw [a3]
      exact hw.2.2 k _ (old k a1)
    · exact hA
section CTOR2
variable {p : Program} {l : Launch} {e : Env} {R : Room} {s : State} {m : MethodId} {args : Array Value} {below : List Frame} {meth : Method} {c : Code} {D : va_G} {G G0 : gG} {A : Nat → Prop} {H0 : Heap} {sg : Bool} {n0 : Int} {M : mM} {x : Option vV × hH} {cells slots : Nat} {pc : Nat} {lv : List (Nat × vV)} {st : List vV} {h : hH}
theorem cv_g {n : Int} {q T : Nat} {y : Int} (hn : n < lay.length) (hy : hT n T y) : cv (gup G n.toNat q).1 (T, y) = cv G.1 (T, y) := by
  match T, hy with
  | 0, _ => rfl
  | 1, _ => rfl
  | 2, _ => rfl
  | T + 3, hy => exact cv_gup (hT_gup hn (by omega) hy)
theorem lv_g {n : Int} {q nL : Nat} {ls : Array Slot} (hn : n < lay.length) (hlv : ∀ q ∈ lv, hT n q.2.1 q.2.2) (hl : lv_has ls nL (lv.map (fun q => (q.1, cv G.1 q.2)))) : lv_has ls nL (lv.map (fun z => (z.1, cv (gup G n.toNat q).1 z.2))) := by
  have : lv.map (fun z => (z.1, cv (gup G n.toNat q).1 z.2)) = lv.map (fun q => (q.1, cv G.1 q.2)) := by
    apply List.map_congr_left
    intro z hz
    rw [cv_g hn (hlv z hz)]
  rw [this]
  exact hl
theorem st_g {n : Int} {q : Nat} (hn : n < lay.length) (hst : ∀ q ∈ st, hT n q.1 q.2) : st.map (cv (gup G n.toNat q).1) = st.map (cv G.1) := by
  apply List.map_congr_left
  intro z hz
  exact cv_g hn (hst z hz)
theorem cx_g {n : Int} {q : Nat} (hC : cxOk p R s m args meth c D G A H0 M) (hn : n < lay.length) (h0 : 0 ≤ n) (h00 : n0 ≤ n) (hA : ∀ q : Nat, A q → (∃ k : Nat, (k : Int) < n0 ∧ q = G0.1 k) ∨ H0.size ≤ q) (hG : ∀ k : Nat, (k : Int) < n0 ∨ n ≤ (k : Int) → G.1 k = G0.1 k) (hq : H0.size ≤ q) : cxOk p R s m args meth c D (gup G n.toNat q) A H0 M := by
  obtain ⟨c1, c2, c3, c4, c5, c6, c7, c8, c9, c10, c11, c12, c13, c14, c15⟩ := hC
  have hl : lay.length = 225 := rfl
  refine ⟨c1, c2, c3, c4, c5, c6, c7, c8, c9, c10, c11, c12, c13, fun y hy => ?_, ?_⟩
  · rcases hA y hy with ⟨k, k1, k2⟩ | z
    · refine Or.inl ⟨k, by omega, ?_⟩
      have e1 : (gup G n.toNat q).1 k = G.1 k := if_neg (by omega)
      rw [e1, hG k (Or.inl k1)]
      exact k2
    · exact Or.inr z
  · have e0 : (gup G n.toNat q).1 1000 = G.1 1000 := if_neg (by omega)
    have e1 : (gup G n.toNat q).1 1001 = G.1 1001 := if_neg (by omega)
    have e2 : (gup G n.toNat q).1 1002 = G.1 1002 := if_neg (by omega)
    unfold skOk skF at c15 ⊢
    rw [e0, e1, e2]
    have hsub : ∀ y, (skB (gup G n.toNat q) y ∨ s.heap.size ≤ y) → (skB G y ∨ s.heap.size ≤ y) := by
      intro y hy
      rcases hy with ⟨k, k1, k2⟩ | z
      · by_cases hk : k = n.toNat
        · have e3 : (gup G n.toNat q).1 k = q := if_pos hk
          rw [e3] at k2
          rw [c13] at hq
          exact Or.inr (by omega)
        · have e3 : (gup G n.toNat q).1 k = G.1 k := if_neg hk
          exact Or.inl ⟨k, k1, by rw [← e3]; exact k2⟩
      · exact Or.inr z
    exact ⟨c15.1, c15.2.1.narrow hsub, c15.2.2.1.narrow hsub, c15.2.2.2.imp (fun z => z.narrow hsub) (fun z => z.narrow hsub)⟩
theorem ag_g {n : Int} {q : Nat} (h0 : 0 ≤ n) (h00 : n0 ≤ n) (hG : agG n0 n G G0) : agG n0 (n + 1) (gup G n.toNat q) G0 :=
  ⟨fun k hk => (show (gup G n.toNat q).1 k = G.1 k from if_neg (by omega)).trans (hG.1 k (by omega)), hG.2⟩
/-- behind a new cell -/
theorem al_go {n len : Int} {T cs ss : Nat} {pc' : Nat} {H H1 : Heap} {locs : List Loc} {ls : Array Slot} {st2 : List vV} (hC : cxOk p R s m args meth c D G A H0 M) (hh : hOk false h) (hn : (agG n0 (nn h) G G0 ∧ (∀ q : Nat, A q → (∃ k : Nat, (k : Int) < n0 ∧ q = G0.1 k) ∨ H0.size ≤ q)) ∧ n0 ≤ nn h) (hlv : ∀ q ∈ lv, hT (nn h) q.2.1 q.2.2) (hst : ∀ q ∈ st2, hT (nn h) q.1 q.2) (hw : wOk D G A h H) (hS : va_S A H0 H locs) (hls : lv_has ls M.2.1 (lv.map (fun q => (q.1, cv G.1 q.2))))
    (hal : nn h = n ∧ 0 ≤ n ∧ n < lay.length ∧ kd n.toNat = T ∧ 0 ≤ len ∧ len < 100000) (ht3 : 10 ≤ T ∧ T < 60) (z1 : H1.size = H.size + 1) (o1 : ∀ a : Nat, a < H.size → H1[a]? = H[a]?) (hnew : va_at D vwCl (H.size, cel (gup G n.toNat H.size) T (fun b => if b = -1 then len else dfl T b)) H1)
    (kk : ∀ G' : gG, Wc p l e R s m args below meth c D G' G0 A H0 false n0 M x cs ss pc' lv ((T, n) :: st2) (alH h n T len)) :
    W p l e R s m args below meth c H1 locs cs ss (MQ below (qC D G0 A false n0 x) args s M.2.2.2.2.2.2.2.1 M.2.2.2.2.2.2.2.2 A) (F0 m pc' ls (.ref H.size :: st2.map (cv G.1))) := by
  obtain ⟨a1, a2, a3, a4, a5, a6⟩ := hal
  have hA := hC.2.2.2.2.2.2.2.2.2.2.2.1
  have hw1 := wld_al (q := H.size) hh a1 a2 a3 a4 hw rfl (hA _ hS.1) o1 hnew
  have hup : ∀ {T : Nat} {y : Int}, hT (nn h) T y → hT (nn (alH h n T len)) T y := fun hy => by rw [alH_nn, ← a1]; exact hT_up hy
  have hup2 : ∀ {T9 : Nat} {y : Int}, hT (nn h) T9 y → hT (nn (alH h n T len)) T9 y := fun hy => by rw [alH_nn, ← a1]; exact hT_up hy
  have hnT : hT (nn (alH h n T len)) T n := by
    rw [alH_nn]
    obtain ⟨t3, t60⟩ := ht3
    match T, t3, t60, a4 with
    | T + 3, t3, t60, a4 => exact Or.inr (Or.inl ⟨a2, by omega, by rw [a4]; omega⟩)
  have k2 := kk (gup G n.toNat H.size) (cx_g hC a3 a2 (by omega) hn.1.2 (by rw [← a1]; exact hn.1.1.1) hS.1) (hOk_al hh a1 a2 a3 a4 a5 a6) ⟨⟨by rw [alH_nn]; exact ag_g a2 (by omega) (by rw [← a1]; exact hn.1.1), hn.1.2⟩, by rw [alH_nn]; omega⟩ (fun q hq => hup2 (hlv q hq)) (fun q hq => by
    rcases List.mem_cons.mp hq with e9 | hq
    · rw [e9]; exact hnT
    · exact hup2 (hst q hq)) H1 locs ls hw1 ⟨by have := hS.1; omega, fun y h1 h2 => (o1 y (Nat.lt_of_lt_of_le h1 hS.1)).trans (hS.2.1 y h1 h2), hS.2.2⟩ (lv_g a3 (by rw [← a1]; exact hlv) hls)
  rw [List.map_cons, st_g a3 (by rw [← a1]; exact hst), cv_refn (gup G n.toNat H.size).1 (by omega) a2] at k2
  have e9 : (gup G n.toNat H.size).1 n.toNat = H.size := if_pos rfl
  rw [e9] at k2
  exact k2
theorem dfl_cv {ad : Nat → Nat} {ci j : Nat} (hci : ci < 13) : cv ad (fT true ci j, dfl (10 + ci) j) = cv (fun _ => 0) (fT true ci j, dfl (10 + ci) j) := by
  by_cases h10 : 10 ≤ fT true ci j
  · have e1 : dfl (10 + ci) j = -1 := by
      unfold dfl
      rw [if_neg (by omega), if_neg (by omega), Nat.add_sub_cancel_left, Int.toNat_natCast, if_pos h10]
    rw [e1]
    generalize fT true ci j = t at h10
    match t, h10 with
    | t + 3, _ => rfl
  · exact cv_lt10 (fT_sm h10)
theorem c_new (ci : Nat) {T : u_T} {C : String} {N i : Nat} {n : Int} {h1 : hH} (hd : decode M.1 pc = .ok (.new i, 3)) (hg : alc h n (10 + ci) 0 = some h1) (hc : vwCl[ci]? = some (C, T, N)) (hci : ci < 13) (hN : nf ci = N) (ty0 : Nat → FieldType) (hty0 : ∀ k, k < N → parseFieldDescriptor (T k).2.2.1 = some (ty0 k)) (hin : ∀ w ∈ u_ws C T N, w ∈ wsL_law) (w1 : Cond.classLink M.2.2.1 i C ∈ wsL_law) (w2 : Cond.instantiable C N ∈ wsL_law) (w3 : Cond.initialized C ∈ wsL_law)
    (hcs : cells + 1 ≤ M.2.2.2.2.2.2.2.1 ∧ slots + N ≤ M.2.2.2.2.2.2.2.2) (hdf : ∀ j, j < N → defaultValue (ty0 j) = cv (fun _ => 0) (fT true ci j, dfl (10 + ci) j))
    (kk : ∀ G' : gG, Wc p l e R s m args below meth c D G' G0 A H0 false n0 M x (cells + 1) (slots + N) (pc + 3) lv ((10 + ci, n) :: st) h1) : Wc p l e R s m args below meth c D G G0 A H0 false n0 M x cells slots pc lv st h := by
  intro hC hh hn hlv hst H locs ls hw hS hls
  obtain ⟨hal, rfl⟩ := alc_some hg
  have hts := hC.2.2.2.2.2.2.2.2.1
  have hRR := hC.2.2.2.2.2.2.1
  have hK := hC.2.2.2.2.2.2.2.2.2.2.1
  have hKn := hK.1 ci _ hc
  refine W.newcK hC.1 hC.2.1 hC.2.2.2.1 (hts _ w1) (hts _ w2) (hts _ w3) rfl hd (by rw [hRR]; exact hcs.1) (by rw [hRR]; exact hcs.2) hKn.2.1 rfl (fun H1 kC hkC e1 z1 o1 => ?_)
  refine al_go (st2 := st) hC hh hn hlv hst hw hS hls hal ⟨by omega, by omega⟩ z1 o1 ?_ kk
  rw [cel_obj hci]
  refine ⟨_, hc, (u_born ty0 hts hin hKn hkC e1 hty0).to (fun j hj => ?_)⟩
  rw [hdf j hj]
  unfold vp_V
  rw [List.getD_eq_getElem?_getD, List.getElem?_map, List.getElem?_range (by rw [hN]; exact hj)]
  simp only [Option.map_some, Option.getD_some]
  rw [if_neg (by omega)]
  exact (dfl_cv hci).symm
theorem arr_cls {ty : FieldType} {cA : ClassId} {k : Nat} (hK : va_K D vwCl (tyG G) s) (hk : (tyG G)[k]? = some (cA, ty)) : ArrOfT s cA ty ∧ va_RA s cA ty := hK.2 k _ hk
/-- a row of numbers is made -/
theorem c_newa {atype : ArrayType} {T : Nat} {n len : Int} {h1 : hH} (hd : decode M.1 pc = .ok (.newarray atype, 2)) (hg : alc h n T len = some h1) (w1 : Cond.arrayClass (newarray.typeOf atype) ∈ wsL_law) (hcase : (atype = .int ∧ T = 50) ∨ (atype = .long ∧ T = 51) ∨ (atype = .byte ∧ T = 52) ∨ (atype = .boolean ∧ T = 53)) (hcs : cells + 1 ≤ M.2.2.2.2.2.2.2.1 ∧ slots + len.toNat ≤ M.2.2.2.2.2.2.2.2)
    (kk : ∀ G' : gG, Wc p l e R s m args below meth c D G' G0 A H0 false n0 M x (cells + 1) (slots + len.toNat) (pc + 2) lv ((T, n) :: st) h1) : Wc p l e R s m args below meth c D G G0 A H0 false n0 M x cells slots pc lv ((0, len) :: st) h := by
  intro hC hh hn hlv hst H locs ls hw hS hls
  obtain ⟨hal, rfl⟩ := alc_some hg
  have hts := hC.2.2.2.2.2.2.2.2.1
  have hRR := hC.2.2.2.2.2.2.1
  have hK := hC.2.2.2.2.2.2.2.2.2.2.1
  have hlen : R32 len := hst _ List.mem_cons_self
  obtain ⟨c1, d1⟩ := cnI hlen hal.2.2.2.2.1
  have hl5 := hal.2.2.2.2.2
  refine va_newaK (N := len.toNat) hC.1 hC.2.1 (hts _ w1) rfl hd rfl c1 d1 ?_ (by rw [hRR]; exact hcs.1) (by rw [hRR]; exact hcs.2) rfl (fun H1 cA e1 z1 o1 hAr hNm => ?_)
  · rcases hcase with ⟨rfl, -⟩ | ⟨rfl, -⟩ | ⟨rfl, -⟩ | ⟨rfl, -⟩ <;> simp only [newarray.typeOf, componentBytes] <;> omega
  refine al_go (st2 := st) hC hh hn hlv (fun q hq => hst q (List.mem_cons_of_mem _ hq)) hw hS hls hal (by rcases hcase with ⟨-, rfl⟩ | ⟨-, rfl⟩ | ⟨-, rfl⟩ | ⟨-, rfl⟩ <;> decide) z1 o1 ?_ kk
  rcases hcase with ⟨rfl, rfl⟩ | ⟨rfl, rfl⟩ | ⟨rfl, rfl⟩ | ⟨rfl, rfl⟩
  · have hcA : cA = G.2 50 := Option.some.inj (hNm.symm.trans (hK.2 0 _ rfl).2)
    rw [cel_arr (Or.inl rfl)]
    refine e1.trans ?_
    rw [hcA]
    show some (arrV _ _ _) = some (vp_cell _ _)
    rw [vp_cell_i]
    rfl
  · have hcA : cA = G.2 51 := Option.some.inj (hNm.symm.trans (hK.2 1 _ rfl).2)
    rw [cel_lon]
    refine e1.trans ?_
    rw [hcA]
    show some (arrV _ _ _) = some (vp_cell _ _)
    rw [vp_cell_l]
    rfl
  · have hcA : cA = G.2 52 := Option.some.inj (hNm.symm.trans (hK.2 2 _ rfl).2)
    rw [cel_arr (Or.inr (Or.inl rfl))]
    refine e1.trans ?_
    rw [hcA]
    show some (arrV _ _ _) = some (vp_cell _ _)
    rw [vp_cell_i]
    rfl
  · have hcA : cA = G.2 53 := Option.some.inj (hNm.symm.trans (hK.2 3 _ rfl).2)
    rw [cel_arr (Or.inr (Or.inr rfl))]
    refine e1.trans ?_
    rw [hcA]
    show some (arrV _ _ _) = some (vp_cell _ _)
    rw [vp_cell_i]
    rfl
end CTOR2
section CTOR3
variable {p : Program} {l : Launch} {e : Env} {R : Room} {s : State} {m : MethodId} {args : Array Value} {below : List Frame} {meth : Method} {c : Code} {D : va_G} {G G0 : gG} {A : Nat → Prop} {H0 : Heap} {sg : Bool} {n0 : Int} {M : mM} {x : Option vV × hH} {cells slots : Nat} {pc : Nat} {lv : List (Nat × vV)} {st : List vV} {h : hH}
/-- a final field is written -/
theorem c_putF (ci k : Nat) {T : u_T} {C : String} {N i t : Nat} {ref : String} {o k' v : Int} {ty : FieldType} {h1 : hH} (he : pput h o k' v = some h1) (hk' : k' = (k : Int)) (ty0 : Nat → FieldType) (hty0 : ∀ k, k < N → parseFieldDescriptor (T k).2.2.1 = some (ty0 k)) (hnm : ∀ a, a < N → ∀ b, b < N → a ≠ b → (T a).2.1 ≠ (T b).2.1) (hc : vwCl[ci]? = some (C, T, N)) (hci : ci < 13) (hN : nf ci = N) (hk : k < N) (hin : ∀ w ∈ u_ws C T N, w ∈ wsL_law) (hlink : Cond.fieldLink M.2.2.1 i ref (T k).2.1 (T k).2.2.1 ∈ wsL_law) (hsame : (T k).1 = ref) (hini : M.2.2.2.2.1 = true) (hdecl : (T k).1 = M.2.2.1)
    (hfin : (T k).2.2.2 = true) (hd9 : parseFieldDescriptor (T k).2.2.1 = some ty) (ht90 : t < 90) (hft : fT true ci k = t) (hty : (t = 0 ∧ ty = .int) ∨ (t = 1 ∧ ty = .long) ∨ (t = 2 ∧ ty = .boolean) ∨ (3 ≤ t ∧ ((∃ z, ty = .object z) ∨ ∃ z, ty = .array z)))
    (hd : decode M.1 pc = .ok (.putfield i, 3)) (kk : Wc p l e R s m args below meth c D G G0 A H0 sg n0 M x cells slots (pc + 3) lv st h1) : Wc p l e R s m args below meth c D G G0 A H0 sg n0 M x cells slots pc lv ((t, v) :: (10 + ci, o) :: st) h := by
  have e1 := Option.some.inj he
  subst e1
  subst hk'
  intro hC hh hn hlv hst H locs ls hw hS hls
  have ho : hT (nn h) (10 + ci) o := hst _ (List.mem_cons_of_mem _ List.mem_cons_self)
  have hv : hT (nn h) t v := hst _ List.mem_cons_self
  obtain ⟨h0, h1, h2⟩ := kOk (by omega) (by omega) ho
  have hx := hC.2.2.2.2.2.2.2.2.1
  have hnn := nn_hup (h := h) (j := (k : Int)) (v := v) h0
  rw [List.map_cons, List.map_cons, cv_refn G.1 (show 3 ≤ 10 + ci by omega) h0]
  refine va_putF (D := D) (ci := ci) (fs := (List.range (nf ci)).map (fun j => cv G.1 (fT true ci j, h o j))) (C := C) (T := T) (N := N) hC.1 hC.2.1 hx hin ty0 hty0 hnm hC.2.2.2.1 hC.2.2.2.2.2.2.2.2.2.2.1 hw.1 hw.2 hS o.toNat (by rw [wld_get h0 h1, h2, cel_obj hci]) hc k hk (hx _ hlink) (fun _ h9 => by rw [← hsame]; exact h9) hfin (hC.2.2.2.2.2.1 hini) hdecl hd9 (nar_ok hty hv).1 (nar_ok hty hv).2 (by simp; rw [hN]; exact hk) hd (fun H1 locs1 hP hD hS1 => ?_)
  have hcel : (G.1 o.toNat, Sum.inr (ci, ((List.range (nf ci)).map (fun j => cv G.1 (fT true ci j, h o j))).set k (cv G.1 (t, v)))) = ((G.1 o.toNat, cel G (kd o.toNat) (hup h o k v o)) : Nat × va_E) := by
    rw [← hft, fld_set (by rw [hN]; exact hk), h2, cel_obj hci]
  rw [hcel, wld_set h0 h1] at hP hD
  exact kk hC (hh.putF hci ho (hT_wk ht90 hft hv)) (by rw [hnn]; exact hn) (by rw [hnn]; exact hlv) (by rw [hnn]; exact fun q hq => hst q (List.mem_cons_of_mem _ (List.mem_cons_of_mem _ hq))) H1 locs1 ls ⟨hP, hD⟩ hS1 hls
theorem c_objInit {i t : Nat} {o : Int} (ht : 3 ≤ t) (ht9 : t < 90) (hd : decode M.1 pc = .ok (.invokespecial i, 3)) (w1 : Cond.methodLink M.2.2.1 i objectInit ∈ wsL_law) (w2 : Cond.instanceMethod objectInit ∈ wsL_law) (w3 : Cond.code objectInit ⟨#[0xb1]⟩ 1 none ∈ wsL_law) (hR : 1 ≤ M.2.2.2.2.2.1 ∧ szA st + 12 ≤ M.2.2.2.2.2.2.1)
    (kk : Wc p l e R s m args below meth c D G G0 A H0 sg n0 M x cells slots (pc + 3) lv st h) : Wc p l e R s m args below meth c D G G0 A H0 sg n0 M x cells slots pc lv ((t, o) :: st) h := by
  intro hC hh hn hlv hst H locs ls hw hS hls
  have hts := hC.2.2.2.2.2.2.2.2.1
  have hRR := hC.2.2.2.2.2.2.1
  have ho : hT (nn h) t o := hst _ List.mem_cons_self
  have h0 : 0 ≤ o := by rcases hT_ref ht ho with z | z | z <;> omega
  rw [List.map_cons, cv_refn G.1 ht h0]
  exact W.objInit hC.1 hC.2.1 hC.2.2.2.1 (hts _ w1) (hts _ w2) (hts _ w3) rfl (hls.1.trans hC.2.2.1.symm) rfl hd (by rw [hRR]; exact hR.1) (by show 2 * 0 + ((st.map (cv G.1)).map fun v => v.category).sum + 12 ≤ R.locals; rw [hRR, cat_sum]; have := hR.2; show 2 * 0 + szA st + 12 ≤ M.2.2.2.2.2.2.1; omega) (kk hC hh hn hlv (fun q hq => hst q (List.mem_cons_of_mem _ hq)) H locs ls hw hS hls)
theorem c_vret (hd : decode M.1 pc = .ok (.return_, 1)) (hr : M.2.2.2.1 = none) (hx : x = (none, h)) (hcs : cells = M.2.2.2.2.2.2.2.1 ∧ slots = M.2.2.2.2.2.2.2.2) : Wc p l e R s m args below meth c D G G0 A H0 sg n0 M x cells slots pc lv [] h := by
  intro hC hh hn hlv hst H locs ls hw hS hls
  obtain ⟨rfl, rfl⟩ := hcs
  exact W.vret hC.1 hC.2.1 (hC.2.2.2.2.1.trans hr) (fun t ht _ => ⟨G, by rw [hx]; exact hn.1.1, q_ret (Z := none) hx hC hh hn.2 (fun _ h => by cases h) hw hS t ht⟩) hS.2.2 hd hC.2.2.2.2.2.2.2.1
/-- contracts of constructors -/
def Ctc (l : Launch) (D : va_G) (y : MethodName) (M : mM) (as : List vV) (h : hH) (x : Option vV × hH) : Prop :=
  hOk false h → (∀ v ∈ as, hT (nn h) v.1 v.2) → ∀ (G : gG) (sz : Nat), Met l y (wsM y M) (rmM M) (va_Pc (as.map (cv G.1)) (pcM D G h sz)) (qC D G (va_A (wld G h) sz) false (nn h) x) M.2.2.2.2.2.2.2.1 M.2.2.2.2.2.2.2.2 (va_A (wld G h) sz)
theorem Ctc_of {l : Launch} {D : va_G} {y : MethodName} {M : mM} {as : List vV} {h : hH} {x : Option vV × hH} (hy : plainName y.cls = true) (hown : M.2.2.1 = y.cls) (hin : M.2.2.2.2.1 = true → y.name = "<init>") (hsz : szA as ≤ M.2.1)
    (body : ∀ {p : Program} {e : Env} {R : Room} {s : State} {m : MethodId} {args : Array Value} {below : List Frame} {meth : Method} {c : Code} {G : gG} {A : Nat → Prop} {H0 : Heap}, Wc p l e R s m args below meth c D G G A H0 false (nn h) M x 0 0 0 (avA 0 as) [] h) : Ctc l D y M as h x := by
  intro hh has G sz
  refine Met.ofW (cc := M.1) (maxL := M.2.1) (ret := M.2.2.2.1) hy rfl ?_
  intro p e s m args below meth c s₁ B hml hv
  obtain ⟨rfl, hsz', hP, hK, hD0, hns, hsk⟩ := hv
  have hts := atoms_spec (ws := wsM y M) B.pre
  have hown' : s.vm.findClass y.cls = some m.cls := findClass_of_methodNamed B.named
  subst hsz'
  rw [lg_entry_eq]
  have hl := lv_entry (as.map (cv G.1)) (n := M.2.1) (by rw [szA_eq]; exact hsz)
  rw [avA_eq] at hl
  have hA2 : ∀ q : Nat, va_A (wld G h) s.heap.size q → (∃ k : Nat, (k : Int) < nn h ∧ q = G.1 k) ∨ s.heap.size ≤ q := fun q hq => hq.imp (fun z => by obtain ⟨k, e9, hk⟩ := z; have hk2 := wld_mem hk; exact ⟨k, hk2.1, (Prod.mk.inj hk2.2).1⟩) id
  exact body (e := e) (R := (headSpec (wsM y M) (rmM M)).room) (H0 := s.heap) ⟨B.exec, B.bytes, hml, by rw [hown]; exact hown', B.returns, fun z => (name_of_methodNamed B.named B.method).1.trans (hin z), rfl, B.notSynchronized, fun w hw => hts w (List.mem_cons_of_mem _ hw), hns, hK, fun q hq => Or.inr hq, rfl, fun q hq => (hA2 q hq).imp (fun z => by obtain ⟨k, k1, k2⟩ := z; have := hh.2.1; exact ⟨k, by omega, k2⟩) id, hsk⟩ hh ⟨⟨⟨fun _ _ => rfl, rfl⟩, hA2⟩, Int.le_refl _⟩ (fun q hq => has _ (avA_in as 0 q hq)) (fun _ h => absurd h List.not_mem_nil) s.heap [] _ ⟨hP, hD0.self⟩ va_S.rf hl
theorem hT_mono {a b : Int} {T : Nat} {y : Int} (hab : a ≤ b) (hy : hT a T y) : hT b T y := by
  match T, hy with
  | 0, hy => exact hy
  | 1, hy => exact hy
  | 2, hy => exact hy
  | T + 3, hy =>
    rcases hT_ref (by omega) hy with z | z | z
    · exact Or.inl z
    · exact Or.inr (Or.inl ⟨z.1, by omega, z.2.2⟩)
    · exact Or.inr (Or.inr z)
theorem cv_ag {G G' : gG} {n n' : Int} {T : Nat} {y : Int} (hn' : n' ≤ lay.length) (hag : ∀ k : Nat, (k : Int) < n ∨ n' ≤ (k : Int) → G'.1 k = G.1 k) (hy : hT n T y) : cv G'.1 (T, y) = cv G.1 (T, y) := by
  have hl : lay.length = 225 := rfl
  match T, hy with
  | 0, _ => rfl
  | 1, _ => rfl
  | 2, _ => rfl
  | T + 3, hy =>
    rw [cv_ge, cv_ge]
    rcases hT_ref (by omega) hy with z | z | z
    · rw [if_pos (by omega), if_pos (by omega)]
    · rw [if_neg (by omega), if_neg (by omega), hag _ (Or.inl (by omega))]
    · rw [if_neg (by omega), if_neg (by omega), hag _ (Or.inr (by omega))]
theorem call_gc {My : mM} {X : Option vV × hH} {rest : List vV} {H : Heap} {locs : List Loc} {ls : Array Slot} {av : Array Value} (hC : cxOk p R s m args meth c D G A H0 M) (hag : (agG n0 (nn h) G G0 ∧ (∀ q : Nat, A q → (∃ k : Nat, (k : Int) < n0 ∧ q = G0.1 k) ∨ H0.size ≤ q)) ∧ n0 ≤ nn h) (hlv : ∀ q ∈ lv, hT (nn h) q.2.1 q.2.2) (hst : ∀ q ∈ rest, hT (nn h) q.1 q.2) (hw : wOk D G A h H) (hS : va_S A H0 H locs) (hls : lv_has ls M.2.1 (lv.map (fun q => (q.1, cv G.1 q.2))))
    (hr : va_Run p l e R s m args below meth c H locs cells slots My.2.2.2.2.2.2.2.1 My.2.2.2.2.2.2.2.2 (F0 m pc ls (st.map (cv G.1))) (rest.map (cv G.1)) (qC D G (va_A (wld G h) H.size) false (nn h) X av) (va_A (wld G h) H.size))
    (kk : ∀ G' : gG, Wc p l e R s m args below meth c D G' G0 A H0 false n0 M x (cells + My.2.2.2.2.2.2.2.1) (slots + My.2.2.2.2.2.2.2.2) (pc + 3) lv (X.1.toList ++ rest) X.2) :
    W p l e R s m args below meth c H locs cells slots (MQ below (qC D G0 A false n0 x) args s M.2.2.2.2.2.2.2.1 M.2.2.2.2.2.2.2.2 A) (F0 m pc ls (st.map (cv G.1))) := by
  have hA := hC.2.2.2.2.2.2.2.2.2.2.2.1
  have hl : lay.length = 225 := rfl
  have hAA : ∀ q, va_A (wld G h) H.size q → A q := by
    intro q hq
    rcases hq with ⟨k, e, hk⟩ | hk
    · exact hw.2.2 k (q, e) hk
    · exact hA q (Nat.le_trans hS.1 hk)
  intro T9 hT9 X9
  obtain ⟨v, st₀, t, T', L, h0, X', hL, e1, e2, ⟨G', ⟨hg1, hg2⟩, ⟨ho, hwt, hht, hnt, hz9⟩, hz, hk⟩, stp⟩ := hr T9 hT9 X9
  rw [h0] at hz hk
  have hv : v = X.1.map (cv G'.1) := by injection ho
  subst hv
  have hlv2 : lv.map (fun q => (q.1, cv G'.1 q.2)) = lv.map (fun q => (q.1, cv G.1 q.2)) := by
    apply List.map_congr_left
    intro q hq
    rw [cv_ag hht.2.1 hg1 (hlv q hq)]
  have hst2 : rest.map (cv G'.1) = rest.map (cv G.1) := by
    apply List.map_congr_left
    intro q hq
    exact cv_ag hht.2.1 hg1 (hst q hq)
  obtain ⟨c1, c2, c3, c4, c5, c6, c7, c8, c9, c10, c11, c12, c13, c14, c15⟩ := hC
  have hT2 : tyG G' = tyG G := by unfold tyG; rw [hg2]
  have hC' : cxOk p R s m args meth c D G' A H0 M := by
    refine ⟨c1, c2, c3, c4, c5, c6, c7, c8, c9, c10, by rw [hT2]; exact c11, c12, c13, fun y hy => ?_, ?_⟩
    · rcases hag.1.2 y hy with ⟨k, k1, k2⟩ | z
      · refine Or.inl ⟨k, by have := hht.2.1; omega, ?_⟩
        rw [hg1 k (Or.inl (by omega)), hag.1.1.1 k (Or.inl k1)]
        exact k2
      · exact Or.inr z
    · unfold skOk skF at c15 ⊢
      have hle := hht.2.1
      rw [hg1 1000 (Or.inr (by omega)), hg1 1001 (Or.inr (by omega)), hg1 1002 (Or.inr (by omega))]
      have hsub : ∀ y, (skB G' y ∨ s.heap.size ≤ y) → (skB G y ∨ s.heap.size ≤ y) := by
        intro y hy
        rcases hy with ⟨k, k1, k2⟩ | z
        · by_cases hk9 : (k : Int) < nn h ∨ nn X.2 ≤ (k : Int)
          · exact Or.inl ⟨k, k1, by rw [← hg1 k hk9]; exact k2⟩
          · have hk3 : (wld G' X.2)[k]? = some (G'.1 k, cel G' (kd k) (X.2 k)) := by
              have := wld_get (G := G') (h := X.2) (k := (k : Int)) (by omega) (by omega)
              simpa using this
            rcases hwt.2.2 k _ hk3 with ⟨k', e9, hk4⟩ | z
            · obtain ⟨b1, b2⟩ := wld_mem hk4
              have b3 : G'.1 k = G.1 k' := (Prod.mk.inj b2).1
              have hk5 : (wld G' X.2)[k']? = some (G'.1 k', cel G' (kd k') (X.2 k')) := by
                have := wld_get (G := G') (h := X.2) (k := (k' : Int)) (by omega) (by omega)
                simpa using this
              have := hwt.2.1 k k' _ _ hk3 hk5 (b3.trans (hg1 k' (Or.inl b1)).symm)
              omega
            · refine Or.inr ?_
              have h4 := hS.1
              rw [c13] at h4
              have z' : H.size ≤ G'.1 k := z
              omega
        · exact Or.inr z
      exact ⟨c15.1, c15.2.1.narrow hsub, c15.2.2.1.narrow hsub, c15.2.2.2.imp (fun z => z.narrow hsub) (fun z => z.narrow hsub)⟩
  have k2 := kk G' hC' hht ⟨⟨⟨fun k hk => by
      rcases hk with z | z
      · rw [hg1 k (Or.inl (by omega))]; exact hag.1.1.1 k (Or.inl z)
      · rw [hg1 k (Or.inr z)]; exact hag.1.1.1 k (Or.inr (by omega)), hg2.trans hag.1.1.2⟩, hag.1.2⟩, by omega⟩ (fun q hq => hT_mono hnt (hlv q hq)) (fun q hq => by
    rcases List.mem_append.mp hq with z | z
    · exact hz9 q (Option.mem_toList.mp z)
    · exact hT_mono hnt (hst q z)) T'.heap (locs ++ L) ls ⟨by rw [e1]; exact hwt.1, hwt.2.weaken (fun _ _ _ z => hAA _ z)⟩
    ⟨Nat.le_trans hS.1 (by rw [e1]; exact hz), fun q h1 h2 => by rw [e1, hk q (Nat.lt_of_lt_of_le h1 hS.1) (fun z => h2 (hAA q z))]; exact hS.2.1 q h1 h2, fun q hq => by
      rcases List.mem_append.mp hq with z | z
      · exact hS.2.2 q z
      · exact hAA _ (hL q z)⟩ (by rw [hlv2]; exact hls)
  obtain ⟨t2, a1, b1⟩ := k2 T' rfl X'
  refine ⟨t2, stp t2 ?_, b1⟩
  have hstk : (X.1.toList ++ rest).map (cv G'.1) = (X.1.map (cv G'.1)).toList ++ rest.map (cv G.1) := by
    rw [← hst2]
    cases X.1 <;> rfl
  rw [hstk] at a1
  exact a1
end CTOR3
section CTOR4
variable {p : Program} {l : Launch} {e : Env} {R : Room} {s : State} {m : MethodId} {args : Array Value} {below : List Frame} {meth : Method} {c : Code} {D : va_G} {G G0 : gG} {A : Nat → Prop} {H0 : Heap} {sg : Bool} {n0 : Int} {M : mM} {x : Option vV × hH} {cells slots : Nat} {pc : Nat} {lv : List (Nat × vV)} {st : List vV} {h : hH}
theorem Ctc_of_Ctr {y : MethodName} {as : List vV} (hM : ∀ G : gG, Ctr l D G false y M as h x) : Ctc l D y M as h x := by
  intro hh has G sz
  have h1 := hM G hh has sz
  intro p e ha hc hk s m args below hf hfit hheap happ
  have h2 := h1 p e ha hc hk s m args below hf hfit hheap happ
  obtain ⟨k, o, a1, a2, a3, a4, a5⟩ := h2
  exact ⟨k, o, a1, a2, a3, ⟨G, ⟨fun _ _ => rfl, rfl⟩, a4⟩, a5⟩
def cN (y : MethodName) (My : mM) (n : Nat) : Prop := Cond.instanceMethod y ∈ wsL_law ∧ Cond.initialized y.cls ∈ wsL_law ∧ Cond.code y My.1 My.2.1 none ∈ wsL_law ∧ My.2.2.2.1 = none ∧ y.name = "<init>" ∧ (y.cls ≠ "java/lang/invoke/MethodHandle" ∧ y.cls ≠ "java/lang/invoke/VarHandle" ∧ (parseMethodDescriptor y.desc).map (fun d => d.parameters.length) = some n)
theorem goodN {y : MethodName} {My : mM} (w5 : Cond.code y My.1 My.2.1 none ∈ wsL_law) (hr : My.2.2.2.1 = none) : GoodIn wsL_law (wsM y My) := goodM (by rw [hr]; exact w5)
theorem c_callI {t i n : Nat} {y : MethodName} {My : mM} {o : Int} {as rest : List vV} {X : Option vV × hH} (hM : Ctc l D y My ((t, o) :: as) h X) (ht : 3 ≤ t) (ht9 : t < 90) (hI : cN y My n) (hn9 : n = as.length)
    (w1 : Cond.methodLink M.2.2.1 i y ∈ wsL_law) (hR : (Nat.ble (My.2.2.2.2.2.1 + 1) M.2.2.2.2.2.1 && Nat.ble (8 + (My.2.1 + 11) + My.2.2.2.2.2.2.1) M.2.2.2.2.2.2.1 && Nat.ble (cells + My.2.2.2.2.2.2.2.1) M.2.2.2.2.2.2.2.1 && Nat.ble (slots + My.2.2.2.2.2.2.2.2) M.2.2.2.2.2.2.2.2 && Nat.ble (szA rest) 8) = true)
    (hd : decode M.1 pc = .ok (.invokespecial i, 3)) (hrev : as.reverse ++ (t, o) :: rest = st)
    (kk : ∀ G' : gG, Wc p l e R s m args below meth c D G' G0 A H0 false n0 M x (cells + My.2.2.2.2.2.2.2.1) (slots + My.2.2.2.2.2.2.2.2) (pc + 3) lv (X.1.toList ++ rest) X.2) : Wc p l e R s m args below meth c D G G0 A H0 false n0 M x cells slots pc lv st h := by
  subst hn9
  subst hrev
  simp only [Bool.and_eq_true, Nat.ble_eq] at hR
  intro hC hh hn hlv hst H locs ls hw hS hls
  have hts := hC.2.2.2.2.2.2.2.2.1
  have hRR := hC.2.2.2.2.2.2.1
  have hK := hC.2.2.2.2.2.2.2.2.2.2.1
  have ho : hT (nn h) t o := hst (t, o) (List.mem_append_right _ List.mem_cons_self)
  have h0 : 0 ≤ o := by rcases hT_ref ht ho with z | z | z <;> omega
  have hM9 := hM hh (fun v hv => by
    rcases List.mem_cons.mp hv with e9 | hv
    · rw [e9]; exact ho
    · exact hst v (List.mem_append_left _ (List.mem_reverse.mpr hv))) G H.size
  refine call_gc (av := (Value.ref (G.1 o.toNat) :: as.map (cv G.1)).toArray) (rest := rest) hC hn hlv (fun q hq => hst q (List.mem_append_right _ (List.mem_cons_of_mem _ hq))) hw hS hls ?_ kk
  refine va_runI (y := y) (own := M.2.2.1) (index := i) (bytes := My.1) (maxL := My.2.1) (ws := wsM y My) (rm := rmM My) (Ts := wsL_law) (cc := M.1) (nL := M.2.1) (n := as.length) (b := G.1 o.toNat) (As := as.map (cv G.1)) ⟨hC.1, hC.2.1, hC.2.2.1, hC.2.2.2.1, hts⟩ hM9
    ⟨callB_of as.length hts (goodN hI.2.2.1 hI.2.2.2.1) (by unfold wsM; rw [hI.2.2.2.1]) rfl rfl (hts _ hI.2.1) (hts _ w1) hI.2.2.2.2.2 (by rw [hRR]; exact ⟨hR.1.1.1.1, hR.1.1.1.2⟩), hI.2.2.2.2.1, hts _ hI.1⟩
    ⟨pc_blind, fun U hU hW => ⟨?_, by rw [hU], by rw [hU]; exact hw.1, va_K.moved hW.alike hK, hw.2.weaken (fun _ _ _ _ => trivial), hC.2.2.2.2.2.2.2.2.2.1.warm hW, by rw [hU]; exact (hC.2.2.2.2.2.2.2.2.2.2.2.2.1 ▸ hC.2.2.2.2.2.2.2.2.2.2.2.2.2.2 : skOk G s H0).go hC.2.2.2.2.2.2.2.2.2.2.2.2.2.1 hS hW⟩⟩ rfl (by simp) hls.1 ?_ (lv_room (by rw [cat_sum]; exact hR.2)) hd (by rw [hRR]; exact ⟨hR.1.1.2, hR.1.2⟩)
  · rw [List.map_cons, cv_refn G.1 ht h0]
  · show (as.reverse ++ (t, o) :: rest).map (cv G.1) = _
    rw [List.map_append, List.map_reverse, List.map_cons, cv_refn G.1 ht h0]
theorem c_callIN {t i n : Nat} {y : MethodName} {My : mM} {o : Int} {as rest : List vV} {X : Option vV × hH} {host : String} (hM : Ctc l D y My ((t, o) :: as) h X) (ht : 3 ≤ t) (ht9 : t < 90) (hI : cN y My n) (hn9 : n = as.length)
    (w1 : (M.2.2.1, i, y, host) ∈ nestL) (hR : (Nat.ble (My.2.2.2.2.2.1 + 1) M.2.2.2.2.2.1 && Nat.ble (8 + (My.2.1 + 11) + My.2.2.2.2.2.2.1) M.2.2.2.2.2.2.1 && Nat.ble (cells + My.2.2.2.2.2.2.2.1) M.2.2.2.2.2.2.2.1 && Nat.ble (slots + My.2.2.2.2.2.2.2.2) M.2.2.2.2.2.2.2.2 && Nat.ble (szA rest) 8) = true)
    (hd : decode M.1 pc = .ok (.invokespecial i, 3)) (hrev : as.reverse ++ (t, o) :: rest = st)
    (kk : ∀ G' : gG, Wc p l e R s m args below meth c D G' G0 A H0 false n0 M x (cells + My.2.2.2.2.2.2.2.1) (slots + My.2.2.2.2.2.2.2.2) (pc + 3) lv (X.1.toList ++ rest) X.2) : Wc p l e R s m args below meth c D G G0 A H0 false n0 M x cells slots pc lv st h := by
  subst hn9
  subst hrev
  simp only [Bool.and_eq_true, Nat.ble_eq] at hR
  intro hC hh hn hlv hst H locs ls hw hS hls
  have hts := hC.2.2.2.2.2.2.2.2.1
  have hRR := hC.2.2.2.2.2.2.1
  have hK := hC.2.2.2.2.2.2.2.2.2.2.1
  have hns := hC.2.2.2.2.2.2.2.2.2.1
  have ho : hT (nn h) t o := hst (t, o) (List.mem_append_right _ List.mem_cons_self)
  have h0 : 0 ≤ o := by rcases hT_ref ht ho with z | z | z <;> omega
  have hM9 := hM hh (fun v hv => by
    rcases List.mem_cons.mp hv with e9 | hv
    · rw [e9]; exact ho
    · exact hst v (List.mem_append_left _ (List.mem_reverse.mpr hv))) G H.size
  refine call_gc (av := (Value.ref (G.1 o.toNat) :: as.map (cv G.1)).toArray) (rest := rest) hC hn hlv (fun q hq => hst q (List.mem_append_right _ (List.mem_cons_of_mem _ hq))) hw hS hls ?_ kk
  refine va_runIN (y := y) (own := M.2.2.1) (host := host) (index := i) (bytes := My.1) (maxL := My.2.1) (ws := wsM y My) (rm := rmM My) (Ts := wsL_law) (cc := M.1) (nL := M.2.1) (n := as.length) (b := G.1 o.toNat) (As := as.map (cv G.1)) ⟨hC.1, hC.2.1, hC.2.2.1, hC.2.2.2.1, hts⟩ hM9
    ⟨va_cnB as.length hts (goodN hI.2.2.1 hI.2.2.2.1) (by unfold wsM; rw [hI.2.2.2.1]) rfl rfl (hns _ w1) (hts _ hI.2.1) hI.2.2.2.2.2 (by rw [hRR]; exact ⟨hR.1.1.1.1, hR.1.1.1.2⟩), hI.2.2.2.2.1, hts _ hI.1⟩
    ⟨pc_blind, fun U hU hW => ⟨?_, by rw [hU], by rw [hU]; exact hw.1, va_K.moved hW.alike hK, hw.2.weaken (fun _ _ _ _ => trivial), hC.2.2.2.2.2.2.2.2.2.1.warm hW, by rw [hU]; exact (hC.2.2.2.2.2.2.2.2.2.2.2.2.1 ▸ hC.2.2.2.2.2.2.2.2.2.2.2.2.2.2 : skOk G s H0).go hC.2.2.2.2.2.2.2.2.2.2.2.2.2.1 hS hW⟩⟩ rfl (by simp) hls.1 ?_ (lv_room (by rw [cat_sum]; exact hR.2)) hd (by rw [hRR]; exact ⟨hR.1.1.2, hR.1.2⟩)
  · rw [List.map_cons, cv_refn G.1 ht h0]
  · show (as.reverse ++ (t, o) :: rest).map (cv G.1) = _
    rw [List.map_append, List.map_reverse, List.map_cons, cv_refn G.1 ht h0]
theorem c_callS {i n : Nat} {y : MethodName} {My : mM} {as rest : List vV} {X : Option vV × hH} (hM : Ctc l D y My as h X) (hI : cS y My n) (hn9 : n = as.length) (w1 : Cond.methodLink M.2.2.1 i y ∈ wsL_law)
    (hR : (Nat.ble (My.2.2.2.2.2.1 + 1) M.2.2.2.2.2.1 && Nat.ble (8 + (My.2.1 + 11) + My.2.2.2.2.2.2.1) M.2.2.2.2.2.2.1 && Nat.ble (cells + My.2.2.2.2.2.2.2.1) M.2.2.2.2.2.2.2.1 && Nat.ble (slots + My.2.2.2.2.2.2.2.2) M.2.2.2.2.2.2.2.2 && Nat.ble (szA rest) 8) = true)
    (hd : decode M.1 pc = .ok (.invokestatic i, 3)) (hrev : as.reverse ++ rest = st)
    (kk : ∀ G' : gG, Wc p l e R s m args below meth c D G' G0 A H0 false n0 M x (cells + My.2.2.2.2.2.2.2.1) (slots + My.2.2.2.2.2.2.2.2) (pc + 3) lv (X.1.toList ++ rest) X.2) : Wc p l e R s m args below meth c D G G0 A H0 false n0 M x cells slots pc lv st h := by
  subst hn9
  subst hrev
  simp only [Bool.and_eq_true, Nat.ble_eq] at hR
  intro hC hh hn hlv hst H locs ls hw hS hls
  have hts := hC.2.2.2.2.2.2.2.2.1
  have hRR := hC.2.2.2.2.2.2.1
  have hK := hC.2.2.2.2.2.2.2.2.2.2.1
  have hM9 := hM hh (fun v hv => hst v (List.mem_append_left _ (List.mem_reverse.mpr hv))) G H.size
  refine call_gc (av := (as.map (cv G.1)).toArray) (rest := rest) hC hn hlv (fun q hq => hst q (List.mem_append_right _ hq)) hw hS hls ?_ kk
  exact va_runS (y := y) (own := M.2.2.1) (index := i) (bytes := My.1) (maxL := My.2.1) (ret := My.2.2.2.1) (ws := wsM y My) (rm := rmM My) (Ts := wsL_law) (cc := M.1) (nL := M.2.1) (n := as.length) (As := as.map (cv G.1)) ⟨hC.1, hC.2.1, hC.2.2.1, hC.2.2.2.1, hts⟩ hM9
    ⟨callB_of as.length hts (goodM hI.2.2.1) rfl rfl rfl (hts _ hI.2.1) (hts _ w1) hI.2.2.2 (by rw [hRR]; exact ⟨hR.1.1.1.1, hR.1.1.1.2⟩), hts _ hI.1⟩
    ⟨pc_blind, fun U hU hW => ⟨rfl, by rw [hU], by rw [hU]; exact hw.1, va_K.moved hW.alike hK, hw.2.weaken (fun _ _ _ _ => trivial), hC.2.2.2.2.2.2.2.2.2.1.warm hW, by rw [hU]; exact (hC.2.2.2.2.2.2.2.2.2.2.2.2.1 ▸ hC.2.2.2.2.2.2.2.2.2.2.2.2.2.2 : skOk G s H0).go hC.2.2.2.2.2.2.2.2.2.2.2.2.2.1 hS hW⟩⟩ rfl (by simp) hls.1 (by simp [F0, List.map_append, List.map_reverse]) (lv_room (by rw [cat_sum]; exact hR.2)) hd (by rw [hRR]; exact ⟨hR.1.1.2, hR.1.2⟩)
end CTOR4
section CTOR5
variable {p : Program} {l : Launch} {e : Env} {R : Room} {s : State} {m : MethodId} {args : Array Value} {below : List Frame} {meth : Method} {c : Code} {D : va_G} {G G0 : gG} {A : Nat → Prop} {H0 : Heap} {sg : Bool} {n0 : Int} {M : mM} {x : Option vV × hH} {cells slots : Nat} {pc : Nat} {lv : List (Nat × vV)} {st : List vV} {h : hH}
theorem c_rast {o j v : Int} {h1 : hH} (hd : decode M.1 pc = .ok (.aastore, 1)) (hg : aput h o j v = some h1) (hv0 : 0 ≤ v) (kk : Wc p l e R s m args below meth c D G G0 A H0 sg n0 M x cells slots (pc + 1) lv st h1) : Wc p l e R s m args below meth c D G G0 A H0 sg n0 M x cells slots pc lv ((118, v) :: (0, j) :: (54, o) :: st) h := by
  obtain ⟨hj0, hj1, rfl⟩ := aput_some hg
  intro hC hh hn hlv hst H locs ls hw hS hls
  have ho : hT (nn h) 54 o := hst _ (List.mem_cons_of_mem _ (List.mem_cons_of_mem _ List.mem_cons_self))
  have hj : R32 j := hst _ (List.mem_cons_of_mem _ List.mem_cons_self)
  have hv : hT (nn h) 118 v := hst _ List.mem_cons_self
  have hv2 : hT (nn h) (10 + 8) v := hTn (t := 15) (by omega) hv0 hv
  obtain ⟨h0, h1, h2⟩ := kOk (by omega) (by omega) ho
  obtain ⟨g0, g1, g2⟩ := kOk (by omega) (by omega) hv2
  obtain ⟨hin, hcl⟩ := rIn hj hj0 hj1
  have hnn := nn_hup (h := h) (j := j) (v := v) h0
  have hlen9 : hup h o j v o (-1) = h o (-1) := by simp [hup]; omega
  rw [List.map_cons, List.map_cons, List.map_cons, cv_refn G.1 (show 3 ≤ 54 by omega) h0, cv_refn G.1 (show 3 ≤ 118 by omega) hv0]
  refine va_astq (D := D) (f := fun j => if h o (j : Nat) < 0 then none else some (G.1 (h o (j : Nat)).toNat)) (r := (RX8, TX8, 3)) hC.1 hC.2.1 hC.2.2.2.2.2.2.2.2.2.2.1 hw.1 hw.2 hS o.toNat 4 v.toNat 8 (by rw [wld_get h0 h1, h2, cel_row (Or.inl rfl)]) rfl (by rw [wld_get g0 g1, g2, cel_obj (by omega)]) rfl hin hd (fun H1 locs1 hP hD hS1 => ?_)
  have hcel : (G.1 o.toNat, Sum.inl (G.2 54, (h o (-1)).toNat, .inr (.inr (.inr (.inr (va_up (fun j => if h o (j : Nat) < 0 then none else some (G.1 (h o (j : Nat)).toNat)) (Int32.ofInt j).toNatClampNeg (some (G.1 v.toNat)))))))) = ((G.1 o.toNat, cel G (kd o.toNat) (hup h o j v o)) : Nat × va_E) := by
    rw [h2, cel_row (Or.inl rfl), hlen9, hcl]
    congr 8
    funext i
    simp only [va_up, hup, true_and]
    by_cases hi : i = j.toNat
    · have e9 : (i : Int) = j := by omega
      simp only [if_pos hi, if_pos e9]
      rw [if_neg (by omega)]
    · have e9 : ¬ (i : Int) = j := by omega
      simp only [if_neg hi, if_neg e9]
  rw [hcel, wld_set h0 h1] at hP hD
  exact kk hC (hh.putA (by omega) (by omega) ho hj0 hv) (by rw [hnn]; exact hn) (by rw [hnn]; exact hlv) (by rw [hnn]; exact (fun q hq => hst q (List.mem_cons_of_mem _ (List.mem_cons_of_mem _ (List.mem_cons_of_mem _ hq))))) H1 locs1 ls ⟨hP, hD⟩ hS1 hls
theorem c_mast {o j v : Int} {h1 : hH} (hd : decode M.1 pc = .ok (.aastore, 1)) (hg : aput h o j v = some h1) (hv0 : 0 ≤ v) (kk : Wc p l e R s m args below meth c D G G0 A H0 sg n0 M x cells slots (pc + 1) lv st h1) : Wc p l e R s m args below meth c D G G0 A H0 sg n0 M x cells slots pc lv ((110, v) :: (0, j) :: (55, o) :: st) h := by
  obtain ⟨hj0, hj1, rfl⟩ := aput_some hg
  intro hC hh hn hlv hst H locs ls hw hS hls
  have ho : hT (nn h) 55 o := hst _ (List.mem_cons_of_mem _ (List.mem_cons_of_mem _ List.mem_cons_self))
  have hj : R32 j := hst _ (List.mem_cons_of_mem _ List.mem_cons_self)
  have hv : hT (nn h) 110 v := hst _ List.mem_cons_self
  have hv2 : hT (nn h) (10 + 0) v := hTn (t := 7) (by omega) hv0 hv
  obtain ⟨h0, h1, h2⟩ := kOk (by omega) (by omega) ho
  obtain ⟨g0, g1, g2⟩ := kOk (by omega) (by omega) hv2
  obtain ⟨hin, hcl⟩ := rIn hj hj0 hj1
  have hnn := nn_hup (h := h) (j := j) (v := v) h0
  have hlen9 : hup h o j v o (-1) = h o (-1) := by simp [hup]; omega
  rw [List.map_cons, List.map_cons, List.map_cons, cv_refn G.1 (show 3 ≤ 55 by omega) h0, cv_refn G.1 (show 3 ≤ 110 by omega) hv0]
  refine va_astq (D := D) (f := fun j => if h o (j : Nat) < 0 then none else some (G.1 (h o (j : Nat)).toNat)) (r := (RX0, TX0, 4)) hC.1 hC.2.1 hC.2.2.2.2.2.2.2.2.2.2.1 hw.1 hw.2 hS o.toNat 5 v.toNat 0 (by rw [wld_get h0 h1, h2, cel_row (Or.inr rfl)]) rfl (by rw [wld_get g0 g1, g2, cel_obj (by omega)]) rfl hin hd (fun H1 locs1 hP hD hS1 => ?_)
  have hcel : (G.1 o.toNat, Sum.inl (G.2 55, (h o (-1)).toNat, .inr (.inr (.inr (.inr (va_up (fun j => if h o (j : Nat) < 0 then none else some (G.1 (h o (j : Nat)).toNat)) (Int32.ofInt j).toNatClampNeg (some (G.1 v.toNat)))))))) = ((G.1 o.toNat, cel G (kd o.toNat) (hup h o j v o)) : Nat × va_E) := by
    rw [h2, cel_row (Or.inr rfl), hlen9, hcl]
    congr 8
    funext i
    simp only [va_up, hup, true_and]
    by_cases hi : i = j.toNat
    · have e9 : (i : Int) = j := by omega
      simp only [if_pos hi, if_pos e9]
      rw [if_neg (by omega)]
    · have e9 : ¬ (i : Int) = j := by omega
      simp only [if_neg hi, if_neg e9]
  rw [hcel, wld_set h0 h1] at hP hD
  exact kk hC (hh.putA (by omega) (by omega) ho hj0 hv) (by rw [hnn]; exact hn) (by rw [hnn]; exact hlv) (by rw [hnn]; exact (fun q hq => hst q (List.mem_cons_of_mem _ (List.mem_cons_of_mem _ (List.mem_cons_of_mem _ hq))))) H1 locs1 ls ⟨hP, hD⟩ hS1 hls
/-- a row of references is made -/
theorem c_newq {T k9 i : Nat} {C : String} {n len : Int} {h1 : hH} (hAO : va_AO C s) (hd : decode M.1 pc = .ok (.anewarray i, 3)) (hg : alc h n T len = some h1) (w1 : Cond.classLink M.2.2.1 i C ∈ wsL_law) (hk : ∀ G : gG, (tyG G)[k9]? = some (G.2 T, .object C)) (hT9 : T = 54 ∨ T = 55) (hcs : cells + 1 ≤ M.2.2.2.2.2.2.2.1 ∧ slots + len.toNat ≤ M.2.2.2.2.2.2.2.2)
    (kk : ∀ G' : gG, Wc p l e R s m args below meth c D G' G0 A H0 false n0 M x (cells + 1) (slots + len.toNat) (pc + 3) lv ((T, n) :: st) h1) : Wc p l e R s m args below meth c D G G0 A H0 false n0 M x cells slots pc lv ((0, len) :: st) h := by
  intro hC hh hn hlv hst H locs ls hw hS hls
  obtain ⟨hal, rfl⟩ := alc_some hg
  have hts := hC.2.2.2.2.2.2.2.2.1
  have hRR := hC.2.2.2.2.2.2.1
  have hK := hC.2.2.2.2.2.2.2.2.2.2.1
  have hlen : R32 len := hst _ List.mem_cons_self
  obtain ⟨c1, d1⟩ := cnI hlen hal.2.2.2.2.1
  have hl5 := hal.2.2.2.2.2
  refine W.anew hC.1 hC.2.1 hC.2.2.2.1 (hts _ w1) (va_AO.use hAO) rfl hd rfl c1 (by rw [d1]; omega) (by rw [hRR]; exact hcs.1) (by rw [hRR, d1]; exact hcs.2) (fun cA kA comp f1 f2 f3 f4 => ?_)
  rw [d1]
  generalize hH1 : H.push ({ cls := cA, slots := Array.replicate len.toNat .null, vm := .none } : Cell) = H1
  have z1 : H1.size = H.size + 1 := by rw [← hH1, Array.size_push]
  have e1 : H1[H.size]? = some (arrV cA len.toNat (fun _ => .null)) := by rw [← hH1, Array.getElem?_push_size, ← arrV_new]
  have o1 : ∀ q : Nat, q < H.size → H1[q]? = H[q]? := fun q hq => by rw [← hH1, Array.getElem?_push, if_neg (Nat.ne_of_lt hq)]
  refine al_go (st2 := st) hC hh hn hlv (fun q hq => hst q (List.mem_cons_of_mem _ hq)) hw hS hls hal (by omega) z1 o1 ?_ kk
  obtain ⟨-, kA2, comp2, -, -, -, g4⟩ := hK.2 k9 _ (hk G)
  have hcA : cA = G.2 T := Option.some.inj (f1.symm.trans g4)
  rw [cel_row hT9]
  refine e1.trans ?_
  rw [hcA]
  show some (arrV _ _ _) = some (vp_cell _ _)
  rw [vp_cell_q]
  congr 2
  funext j
  have hz : ¬ ((j : Nat) : Int) = -1 := by omega
  have h9 : dfl T (j : Nat) = -1 := if_pos hT9
  simp only [if_neg hz, h9]
  rw [if_pos (by decide)]
  rfl
end CTOR5
