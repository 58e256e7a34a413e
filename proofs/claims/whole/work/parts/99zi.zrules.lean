/-! THE RULES AGAIN, WITH ANY END (for what throws, and for the law) -/
def Wz (p : Program) (l : Launch) (e : Env) (R : Room) (s : State) (m : MethodId) (args : Array Value) (below : List Frame) (meth : Method) (c : Code) (D : va_G) (G : gG) (A : Nat → Prop) (H0 : Heap) (sg : Bool) (n0 : Int) (M : mM) (Q : State → Prop) (cells slots : Nat) (pc : Nat) (lv : List (Nat × vV)) (st : List vV) (h : hH) : Prop :=
  cxOk p R s m args meth c D G A H0 M → hOk sg h → n0 ≤ nn h → (∀ q ∈ lv, hT (nn h) q.2.1 q.2.2) → (∀ q ∈ st, hT (nn h) q.1 q.2) → ∀ (H : Heap) (locs : List Loc) (ls : Array Slot), wOk D G A h H → va_S A H0 H locs → lv_has ls M.2.1 (lv.map (fun q => (q.1, cv G.1 q.2))) →
    W p l e R s m args below meth c H locs cells slots Q (F0 m pc ls (st.map (cv G.1)))
section ZR
variable {p : Program} {l : Launch} {e : Env} {R : Room} {s : State} {m : MethodId} {args : Array Value} {below : List Frame} {meth : Method} {c : Code} {D : va_G} {G : gG} {A : Nat → Prop} {H0 : Heap} {sg : Bool} {n0 : Int} {M : mM} {Q : State → Prop} {cells slots : Nat} {pc : Nat} {lv : List (Nat × vV)} {st : List vV} {h : hH}
theorem z_sub (ks : List Nat) {lv' : List (Nat × vV)} (hl : ks.filterMap (fun k => lv[k]?) = lv') (kk : Wz p l e R s m args below meth c D G A H0 sg n0 M Q cells slots pc lv' st h) : Wz p l e R s m args below meth c D G A H0 sg n0 M Q cells slots pc lv st h := by
  intro hC hh hn hlv hst H locs ls hw hS hls
  refine kk hC hh hn (fun q hq => ?_) hst H locs ls hw hS ?_
  · subst hl
    obtain ⟨k, -, hk⟩ := List.mem_filterMap.mp hq
    exact hlv q (List.mem_of_getElem? hk)
  · refine lv_sub hls ks ?_
    subst hl
    unfold lv_pick
    rw [List.map_filterMap]
    congr 1
    funext k
    simp [List.getElem?_map]
theorem z_cast {v w : vV} (hv : ∀ ad, cv ad v = cv ad w) (hT' : hT (nn h) v.1 v.2 → hT (nn h) w.1 w.2) (kk : Wz p l e R s m args below meth c D G A H0 sg n0 M Q cells slots pc lv (w :: st) h) : Wz p l e R s m args below meth c D G A H0 sg n0 M Q cells slots pc lv (v :: st) h := by
  intro hC hh hn hlv hst H locs ls hw hS hls
  have := kk hC hh hn hlv (stc (hT' (hst v List.mem_cons_self)) (fun q hq => hst q (List.mem_cons_of_mem _ hq))) H locs ls hw hS hls
  rw [List.map_cons, ← hv G.1, ← List.map_cons] at this
  exact this
theorem z_z2i {b : Int} (kk : Wz p l e R s m args below meth c D G A H0 sg n0 M Q cells slots pc lv ((0, b) :: st) h) : Wz p l e R s m args below meth c D G A H0 sg n0 M Q cells slots pc lv ((2, b) :: st) h :=
  z_cast (v := (2, b)) (w := (0, b)) (fun _ => rfl) (fun hb => hT_R32 (n := nn h) (T := 2) (Or.inr rfl) hb) kk
theorem z_i2z {b : Int} (hb : b = 0 ∨ b = 1) (kk : Wz p l e R s m args below meth c D G A H0 sg n0 M Q cells slots pc lv ((2, b) :: st) h) : Wz p l e R s m args below meth c D G A H0 sg n0 M Q cells slots pc lv ((0, b) :: st) h :=
  z_cast (v := (0, b)) (w := (2, b)) (fun _ => rfl) (fun _ => hb) kk
theorem z_pure {v : vV} {pc' : Nat} (hv : hT (nn h) v.1 v.2) (step : ∀ {Q : State → Prop} {H : Heap} {locs : List Loc} {ls : Array Slot}, p.tables.exec = Jvm.exec → c.code = M.1 → s.vm.findClass M.2.2.1 = some m.cls → (∀ w ∈ wsL_law, w.before args s = true) → lv_has ls M.2.1 (lv.map (fun q => (q.1, cv G.1 q.2))) →
      W p l e R s m args below meth c H locs cells slots Q (F0 m pc' ls (cv G.1 v :: st.map (cv G.1))) → W p l e R s m args below meth c H locs cells slots Q (F0 m pc ls (st.map (cv G.1))))
    (kk : Wz p l e R s m args below meth c D G A H0 sg n0 M Q cells slots pc' lv (v :: st) h) : Wz p l e R s m args below meth c D G A H0 sg n0 M Q cells slots pc lv st h := by
  intro hC hh hn hlv hst H locs ls hw hS hls
  exact step hC.1 hC.2.1 hC.2.2.2.1 hC.2.2.2.2.2.2.2.2.1 hls (kk hC hh hn hlv (stc hv hst) H locs ls hw hS hls)
theorem z_iconst {n : Int} (hd : decode M.1 pc = .ok (.iconst n, 1)) (hr : R32 n) (kk : Wz p l e R s m args below meth c D G A H0 sg n0 M Q cells slots (pc + 1) lv ((0, n) :: st) h) : Wz p l e R s m args below meth c D G A H0 sg n0 M Q cells slots pc lv st h :=
  z_pure (v := (0, n)) hr (fun hx hb _ _ _ k => lv_iconst hx hb hd rfl k) kk
theorem z_sipush {n : Int} (hd : decode M.1 pc = .ok (.sipush n, 3)) (hr : R32 n) (hv : (Int16.ofInt n).toInt32 = Int32.ofInt n) (kk : Wz p l e R s m args below meth c D G A H0 sg n0 M Q cells slots (pc + 3) lv ((0, n) :: st) h) : Wz p l e R s m args below meth c D G A H0 sg n0 M Q cells slots pc lv st h :=
  z_pure (v := (0, n)) hr (fun hx hb _ _ _ k => lv_sipush hx hb hd hv k) kk
theorem z_bipush {n : Int} (hd : decode M.1 pc = .ok (.bipush n, 2)) (hr : R32 n) (hv : (Int8.ofInt n).toInt32 = Int32.ofInt n) (kk : Wz p l e R s m args below meth c D G A H0 sg n0 M Q cells slots (pc + 2) lv ((0, n) :: st) h) : Wz p l e R s m args below meth c D G A H0 sg n0 M Q cells slots pc lv st h :=
  z_pure (v := (0, n)) hr (fun hx hb _ _ _ k => lv_bipush hx hb hd hv k) kk
theorem z_lconst {n : Fin 2} {v : Int} (hd : decode M.1 pc = .ok (.lconst n, 1)) (hr : R64 v) (hv : Int64.ofNat (n : Nat) = Int64.ofInt v) (kk : Wz p l e R s m args below meth c D G A H0 sg n0 M Q cells slots (pc + 1) lv ((1, v) :: st) h) : Wz p l e R s m args below meth c D G A H0 sg n0 M Q cells slots pc lv st h :=
  z_pure (v := (1, v)) hr (fun hx hb _ _ _ k => lv_lconst hx hb hd hv k) kk
theorem z_ldc {i : Nat} {v : Int} (hd : decode M.1 pc = .ok (.ldc i, 2)) (hr : R32 v) (hw : Cond.constant M.2.2.1 i (Int32.ofInt v) ∈ wsL_law) (kk : Wz p l e R s m args below meth c D G A H0 sg n0 M Q cells slots (pc + 2) lv ((0, v) :: st) h) : Wz p l e R s m args below meth c D G A H0 sg n0 M Q cells slots pc lv st h :=
  z_pure (v := (0, v)) hr (fun hx hb ho hts _ k => lv_ldc hx hb ho (hts _ hw) hd k) kk
theorem z_ldc2 {i : Nat} {v : Int} (hd : decode M.1 pc = .ok (.ldc2_w i, 3)) (hr : R64 v) (hw : Cond.constantLong M.2.2.1 i (Int64.ofInt v) ∈ wsL_law) (kk : Wz p l e R s m args below meth c D G A H0 sg n0 M Q cells slots (pc + 3) lv ((1, v) :: st) h) : Wz p l e R s m args below meth c D G A H0 sg n0 M Q cells slots pc lv st h :=
  z_pure (v := (1, v)) hr (fun hx hb ho hts _ k => lv_ldc2 hx hb ho (hts _ hw) hd k) kk
theorem z_iload_n {k : Fin 4} {i : Nat} {v : vV} (hd : decode M.1 pc = .ok (.iload_n k, 1)) (hi : (k : Nat) = i) (j : Nat) (hj : lv[j]? = some (i, v)) (hv : v.1 = 0 ∨ v.1 = 2) (kk : Wz p l e R s m args below meth c D G A H0 sg n0 M Q cells slots (pc + 1) lv (v :: st) h) : Wz p l e R s m args below meth c D G A H0 sg n0 M Q cells slots pc lv st h := by
  obtain ⟨t, y⟩ := v
  intro hC hh hn hlv hst H locs ls hw hS hls
  have k2 := kk hC hh hn hlv (stc (hlv _ (List.mem_of_getElem? hj)) hst) H locs ls hw hS hls
  rcases hv with e | e <;> (dsimp only at e; subst e; exact lv_iload_n hC.1 hC.2.1 hd hi (lvg hls hj) k2)
theorem z_iload {i : Nat} {v : vV} (hd : decode M.1 pc = .ok (.iload i, 2)) (j : Nat) (hj : lv[j]? = some (i, v)) (hv : v.1 = 0 ∨ v.1 = 2) (kk : Wz p l e R s m args below meth c D G A H0 sg n0 M Q cells slots (pc + 2) lv (v :: st) h) : Wz p l e R s m args below meth c D G A H0 sg n0 M Q cells slots pc lv st h := by
  obtain ⟨t, y⟩ := v
  intro hC hh hn hlv hst H locs ls hw hS hls
  have k2 := kk hC hh hn hlv (stc (hlv _ (List.mem_of_getElem? hj)) hst) H locs ls hw hS hls
  rcases hv with e | e <;> (dsimp only at e; subst e; exact lv_iload hC.1 hC.2.1 hd (lvg hls hj) k2)
theorem z_lload_n {k : Fin 4} {i : Nat} {v : Int} (hd : decode M.1 pc = .ok (.lload_n k, 1)) (hi : (k : Nat) = i) (j : Nat) (hj : lv[j]? = some (i, (1, v))) (kk : Wz p l e R s m args below meth c D G A H0 sg n0 M Q cells slots (pc + 1) lv ((1, v) :: st) h) : Wz p l e R s m args below meth c D G A H0 sg n0 M Q cells slots pc lv st h := by
  intro hC hh hn hlv hst H locs ls hw hS hls
  exact lv_lload_n hC.1 hC.2.1 hd hi (lvg hls hj) (kk hC hh hn hlv (stc (hlv _ (List.mem_of_getElem? hj)) hst) H locs ls hw hS hls)
theorem z_lload {i : Nat} {v : Int} (hd : decode M.1 pc = .ok (.lload i, 2)) (j : Nat) (hj : lv[j]? = some (i, (1, v))) (kk : Wz p l e R s m args below meth c D G A H0 sg n0 M Q cells slots (pc + 2) lv ((1, v) :: st) h) : Wz p l e R s m args below meth c D G A H0 sg n0 M Q cells slots pc lv st h := by
  intro hC hh hn hlv hst H locs ls hw hS hls
  exact lv_lload hC.1 hC.2.1 hd (lvg hls hj) (kk hC hh hn hlv (stc (hlv _ (List.mem_of_getElem? hj)) hst) H locs ls hw hS hls)
theorem z_aload_n {k : Fin 4} {i : Nat} {v : vV} (hd : decode M.1 pc = .ok (.aload_n k, 1)) (hi : (k : Nat) = i) (j : Nat) (hj : lv[j]? = some (i, v)) (hv : 3 ≤ v.1) (kk : Wz p l e R s m args below meth c D G A H0 sg n0 M Q cells slots (pc + 1) lv (v :: st) h) : Wz p l e R s m args below meth c D G A H0 sg n0 M Q cells slots pc lv st h := by
  intro hC hh hn hlv hst H locs ls hw hS hls
  have k2 := kk hC hh hn hlv (stc (hlv _ (List.mem_of_getElem? hj)) hst) H locs ls hw hS hls
  have hl := lvg hls hj
  rw [List.map_cons] at k2
  rcases cv_ref G.1 hv with e | e
  · rw [e] at hl k2; exact lv_aload_nN hC.1 hC.2.1 hd hi hl k2
  · rw [e] at hl k2; exact lv_aload_n hC.1 hC.2.1 hd hi hl k2
theorem z_aload {i : Nat} {v : vV} (hd : decode M.1 pc = .ok (.aload i, 2)) (j : Nat) (hj : lv[j]? = some (i, v)) (hv : 3 ≤ v.1) (kk : Wz p l e R s m args below meth c D G A H0 sg n0 M Q cells slots (pc + 2) lv (v :: st) h) : Wz p l e R s m args below meth c D G A H0 sg n0 M Q cells slots pc lv st h := by
  intro hC hh hn hlv hst H locs ls hw hS hls
  have k2 := kk hC hh hn hlv (stc (hlv _ (List.mem_of_getElem? hj)) hst) H locs ls hw hS hls
  have hl := lvg hls hj
  rw [List.map_cons] at k2
  rcases cv_ref G.1 hv with e | e
  · rw [e] at hl k2; exact lv_aloadN hC.1 hC.2.1 hd hl k2
  · rw [e] at hl k2; exact lv_aload hC.1 hC.2.1 hd hl k2
theorem z_istore {i : Nat} {v : vV} {lv' : List (Nat × vV)} (hd : decode M.1 pc = .ok (.istore i, 2)) (hv : v.1 = 0 ∨ v.1 = 2) (hn9 : i < M.2.1) (hl : (i, v) :: lv.filter (fl1 i) = lv') (kk : Wz p l e R s m args below meth c D G A H0 sg n0 M Q cells slots (pc + 2) lv' st h) : Wz p l e R s m args below meth c D G A H0 sg n0 M Q cells slots pc lv (v :: st) h := by
  obtain ⟨t, y⟩ := v
  intro hC hh hn hlv hst H locs ls hw hS hls
  have hv9 := hst _ List.mem_cons_self
  have hm := lvm (G := G) (v := (t, y)) (fl1 i) (fun q => !(q.1 == i) && !(q.1 + 1 == i && q.2.category == 2)) (fun q => by simp only [fl1, cv_cat]) hl
  rcases hv with e9 | e9 <;> (dsimp only at e9; subst e9; exact lv_istore hC.1 hC.2.1 hd hls hn9 hm (fun ls' hls' => kk hC hh hn (lvc hv9 hlv _ hl) (fun q hq => hst q (List.mem_cons_of_mem _ hq)) H locs ls' hw hS hls'))
theorem z_istore_n {k : Fin 4} {i : Nat} {v : vV} {lv' : List (Nat × vV)} (hd : decode M.1 pc = .ok (.istore_n k, 1)) (hi : (k : Nat) = i) (hv : v.1 = 0 ∨ v.1 = 2) (hn9 : i < M.2.1) (hl : (i, v) :: lv.filter (fl1 i) = lv') (kk : Wz p l e R s m args below meth c D G A H0 sg n0 M Q cells slots (pc + 1) lv' st h) : Wz p l e R s m args below meth c D G A H0 sg n0 M Q cells slots pc lv (v :: st) h := by
  obtain ⟨t, y⟩ := v
  intro hC hh hn hlv hst H locs ls hw hS hls
  have hv9 := hst _ List.mem_cons_self
  have hm := lvm (G := G) (v := (t, y)) (fl1 i) (fun q => !(q.1 == i) && !(q.1 + 1 == i && q.2.category == 2)) (fun q => by simp only [fl1, cv_cat]) hl
  rcases hv with e9 | e9 <;> (dsimp only at e9; subst e9; exact lv_istore_n hC.1 hC.2.1 hd hi hls hn9 hm (fun ls' hls' => kk hC hh hn (lvc hv9 hlv _ hl) (fun q hq => hst q (List.mem_cons_of_mem _ hq)) H locs ls' hw hS hls'))
theorem z_lstore {i : Nat} {y : Int} {lv' : List (Nat × vV)} (hd : decode M.1 pc = .ok (.lstore i, 2)) (hn9 : i + 1 < M.2.1) (hl : (i, ((1, y) : vV)) :: lv.filter (fl2 i) = lv') (kk : Wz p l e R s m args below meth c D G A H0 sg n0 M Q cells slots (pc + 2) lv' st h) : Wz p l e R s m args below meth c D G A H0 sg n0 M Q cells slots pc lv ((1, y) :: st) h := by
  intro hC hh hn hlv hst H locs ls hw hS hls
  have hv9 := hst _ List.mem_cons_self
  have hm := lvm (G := G) (v := (1, y)) (fl2 i) (fun q => !(q.1 == i) && (!(q.1 == i + 1) && !(q.1 + 1 == i && q.2.category == 2))) (fun q => by simp only [fl2, cv_cat]) hl
  exact lv_lstore hC.1 hC.2.1 hd hls hn9 hm (fun ls' hls' => kk hC hh hn (lvc hv9 hlv _ hl) (fun q hq => hst q (List.mem_cons_of_mem _ hq)) H locs ls' hw hS hls')
theorem z_lstore_n {k : Fin 4} {i : Nat} {y : Int} {lv' : List (Nat × vV)} (hd : decode M.1 pc = .ok (.lstore_n k, 1)) (hi : (k : Nat) = i) (hn9 : i + 1 < M.2.1) (hl : (i, ((1, y) : vV)) :: lv.filter (fl2 i) = lv') (kk : Wz p l e R s m args below meth c D G A H0 sg n0 M Q cells slots (pc + 1) lv' st h) : Wz p l e R s m args below meth c D G A H0 sg n0 M Q cells slots pc lv ((1, y) :: st) h := by
  intro hC hh hn hlv hst H locs ls hw hS hls
  have hv9 := hst _ List.mem_cons_self
  have hm := lvm (G := G) (v := (1, y)) (fl2 i) (fun q => !(q.1 == i) && (!(q.1 == i + 1) && !(q.1 + 1 == i && q.2.category == 2))) (fun q => by simp only [fl2, cv_cat]) hl
  exact lv_lstore_n hC.1 hC.2.1 hd hi hls hn9 hm (fun ls' hls' => kk hC hh hn (lvc hv9 hlv _ hl) (fun q hq => hst q (List.mem_cons_of_mem _ hq)) H locs ls' hw hS hls')
theorem z_astore {i : Nat} {v : vV} {lv' : List (Nat × vV)} (hd : decode M.1 pc = .ok (.astore i, 2)) (hv : 3 ≤ v.1) (hn9 : i < M.2.1) (hl : (i, v) :: lv.filter (fl1 i) = lv') (kk : Wz p l e R s m args below meth c D G A H0 sg n0 M Q cells slots (pc + 2) lv' st h) : Wz p l e R s m args below meth c D G A H0 sg n0 M Q cells slots pc lv (v :: st) h := by
  intro hC hh hn hlv hst H locs ls hw hS hls
  have hv9 := hst _ List.mem_cons_self
  have hm := lvm (G := G) (v := v) (fl1 i) (fun q => !(q.1 == i) && !(q.1 + 1 == i && q.2.category == 2)) (fun q => by simp only [fl1, cv_cat]) hl
  rw [List.map_cons]
  rcases cv_ref G.1 hv with e9 | e9
  · rw [e9] at hm ⊢; exact lv_astoreN hC.1 hC.2.1 hd hls hn9 hm (fun ls' hls' => kk hC hh hn (lvc hv9 hlv _ hl) (fun q hq => hst q (List.mem_cons_of_mem _ hq)) H locs ls' hw hS hls')
  · rw [e9] at hm ⊢; exact lv_astore hC.1 hC.2.1 hd hls hn9 hm (fun ls' hls' => kk hC hh hn (lvc hv9 hlv _ hl) (fun q hq => hst q (List.mem_cons_of_mem _ hq)) H locs ls' hw hS hls')
theorem z_astore_n {k : Fin 4} {i : Nat} {v : vV} {lv' : List (Nat × vV)} (hd : decode M.1 pc = .ok (.astore_n k, 1)) (hi : (k : Nat) = i) (hv : 3 ≤ v.1) (hn9 : i < M.2.1) (hl : (i, v) :: lv.filter (fl1 i) = lv') (kk : Wz p l e R s m args below meth c D G A H0 sg n0 M Q cells slots (pc + 1) lv' st h) : Wz p l e R s m args below meth c D G A H0 sg n0 M Q cells slots pc lv (v :: st) h := by
  intro hC hh hn hlv hst H locs ls hw hS hls
  have hv9 := hst _ List.mem_cons_self
  have hm := lvm (G := G) (v := v) (fl1 i) (fun q => !(q.1 == i) && !(q.1 + 1 == i && q.2.category == 2)) (fun q => by simp only [fl1, cv_cat]) hl
  rw [List.map_cons]
  rcases cv_ref G.1 hv with e9 | e9
  · rw [e9] at hm ⊢; exact lv_astore_nN hC.1 hC.2.1 hd hi hls hn9 hm (fun ls' hls' => kk hC hh hn (lvc hv9 hlv _ hl) (fun q hq => hst q (List.mem_cons_of_mem _ hq)) H locs ls' hw hS hls')
  · rw [e9] at hm ⊢; exact lv_astore_n hC.1 hC.2.1 hd hi hls hn9 hm (fun ls' hls' => kk hC hh hn (lvc hv9 hlv _ hl) (fun q hq => hst q (List.mem_cons_of_mem _ hq)) H locs ls' hw hS hls')
theorem z_iinc {i k : Nat} {n v : Int} {lv' : List (Nat × vV)} (hd : decode M.1 pc = .ok (.iinc i n, 3)) (hk : lv[k]? = some (i, (0, v))) (hn9 : i < M.2.1) (hl : (i, ((0, w32 (v + n)) : vV)) :: lv.filter (fl1 i) = lv') (kk : Wz p l e R s m args below meth c D G A H0 sg n0 M Q cells slots (pc + 3) lv' st h) : Wz p l e R s m args below meth c D G A H0 sg n0 M Q cells slots pc lv st h := by
  intro hC hh hn hlv hst H locs ls hw hS hls
  have hm := lvm (G := G) (v := (0, w32 (v + n))) (fl1 i) (fun q => !(q.1 == i) && !(q.1 + 1 == i && q.2.category == 2)) (fun q => by simp only [fl1, cv_cat]) hl
  refine lv_iinc (k := k) (v := Int32.ofInt (w32 (v + n))) hC.1 hC.2.1 hd hls (by rw [List.getElem?_map, hk]; rfl) (by rw [w32_ofInt, Int32.ofInt_add]) hn9 hm (fun ls' hls' => kk hC hh hn (lvc (v := (0, w32 (v + n))) (R32_w _) hlv _ hl) hst H locs ls' hw hS hls')
theorem z_dup {v : vV} (hd : decode M.1 pc = .ok (.dup, 1)) (hv : v.1 ≠ 1) (kk : Wz p l e R s m args below meth c D G A H0 sg n0 M Q cells slots (pc + 1) lv (v :: v :: st) h) : Wz p l e R s m args below meth c D G A H0 sg n0 M Q cells slots pc lv (v :: st) h := by
  intro hC hh hn hlv hst H locs ls hw hS hls
  exact lv_dup hC.1 hC.2.1 hd (cv_cat1 _ hv) (kk hC hh hn hlv (stc (hst v List.mem_cons_self) hst) H locs ls hw hS hls)
theorem z_dup2 {v w : vV} (hd : decode M.1 pc = .ok (.dup2, 1)) (hv : v.1 ≠ 1) (hv2 : w.1 ≠ 1) (kk : Wz p l e R s m args below meth c D G A H0 sg n0 M Q cells slots (pc + 1) lv (v :: w :: v :: w :: st) h) : Wz p l e R s m args below meth c D G A H0 sg n0 M Q cells slots pc lv (v :: w :: st) h := by
  intro hC hh hn hlv hst H locs ls hw hS hls
  exact lv_dup2_11 hC.1 hC.2.1 hd (cv_cat1 _ hv) (cv_cat1 _ hv2) (kk hC hh hn hlv (stc (hst v List.mem_cons_self) (stc (hst w (List.mem_cons_of_mem _ List.mem_cons_self)) hst)) H locs ls hw hS hls)
theorem z_pop {v : vV} (hd : decode M.1 pc = .ok (.pop, 1)) (hv : v.1 ≠ 1) (kk : Wz p l e R s m args below meth c D G A H0 sg n0 M Q cells slots (pc + 1) lv st h) : Wz p l e R s m args below meth c D G A H0 sg n0 M Q cells slots pc lv (v :: st) h := by
  intro hC hh hn hlv hst H locs ls hw hS hls
  exact lv_pop hC.1 hC.2.1 hd (cv_cat1 _ hv) (kk hC hh hn hlv (fun q hq => hst q (List.mem_cons_of_mem _ hq)) H locs ls hw hS hls)
theorem z_iadd {a b : Int} (hd : decode M.1 pc = .ok (.iadd, 1)) (kk : Wz p l e R s m args below meth c D G A H0 sg n0 M Q cells slots (pc + 1) lv ((0, w32 (a + b)) :: st) h) : Wz p l e R s m args below meth c D G A H0 sg n0 M Q cells slots pc lv ((0, b) :: (0, a) :: st) h := by
  intro hC hh hn hlv hst H locs ls hw hS hls
  have k2 := kk hC hh hn hlv (stc (v := (0, w32 (a + b))) (R32_w _) (fun q hq => hst q (List.mem_cons_of_mem _ (List.mem_cons_of_mem _ hq)))) H locs ls hw hS hls
  have ha : R32 a := hst _ (List.mem_cons_of_mem _ List.mem_cons_self)
  have hb : R32 b := hst _ List.mem_cons_self
  rw [List.map_cons, show cv G.1 (0, w32 (a + b)) = .int (Int32.ofInt a + Int32.ofInt b) from by simp only [cv, w32_ofInt, w64_ofInt, Int32.ofInt_toInt, Int64.ofInt_toInt, Int32.ofInt_add, Int32.ofInt_sub, Int32.ofInt_mul, Int64.ofInt_add, Int64.ofInt_mul, iadD, iorD, ixoD, ishD, isrD, iusD, idvD, irmD, landD, lorD, lshD, lsrD, lusD]] at k2
  exact lv_iadd hC.1 hC.2.1 hd k2
theorem z_isub {a b : Int} (hd : decode M.1 pc = .ok (.isub, 1)) (kk : Wz p l e R s m args below meth c D G A H0 sg n0 M Q cells slots (pc + 1) lv ((0, w32 (a - b)) :: st) h) : Wz p l e R s m args below meth c D G A H0 sg n0 M Q cells slots pc lv ((0, b) :: (0, a) :: st) h := by
  intro hC hh hn hlv hst H locs ls hw hS hls
  have k2 := kk hC hh hn hlv (stc (v := (0, w32 (a - b))) (R32_w _) (fun q hq => hst q (List.mem_cons_of_mem _ (List.mem_cons_of_mem _ hq)))) H locs ls hw hS hls
  have ha : R32 a := hst _ (List.mem_cons_of_mem _ List.mem_cons_self)
  have hb : R32 b := hst _ List.mem_cons_self
  rw [List.map_cons, show cv G.1 (0, w32 (a - b)) = .int (Int32.ofInt a - Int32.ofInt b) from by simp only [cv, w32_ofInt, w64_ofInt, Int32.ofInt_toInt, Int64.ofInt_toInt, Int32.ofInt_add, Int32.ofInt_sub, Int32.ofInt_mul, Int64.ofInt_add, Int64.ofInt_mul, iadD, iorD, ixoD, ishD, isrD, iusD, idvD, irmD, landD, lorD, lshD, lsrD, lusD]] at k2
  exact lv_isub hC.1 hC.2.1 hd k2
theorem z_imul {a b : Int} (hd : decode M.1 pc = .ok (.imul, 1)) (kk : Wz p l e R s m args below meth c D G A H0 sg n0 M Q cells slots (pc + 1) lv ((0, w32 (a * b)) :: st) h) : Wz p l e R s m args below meth c D G A H0 sg n0 M Q cells slots pc lv ((0, b) :: (0, a) :: st) h := by
  intro hC hh hn hlv hst H locs ls hw hS hls
  have k2 := kk hC hh hn hlv (stc (v := (0, w32 (a * b))) (R32_w _) (fun q hq => hst q (List.mem_cons_of_mem _ (List.mem_cons_of_mem _ hq)))) H locs ls hw hS hls
  have ha : R32 a := hst _ (List.mem_cons_of_mem _ List.mem_cons_self)
  have hb : R32 b := hst _ List.mem_cons_self
  rw [List.map_cons, show cv G.1 (0, w32 (a * b)) = .int (Int32.ofInt a * Int32.ofInt b) from by simp only [cv, w32_ofInt, w64_ofInt, Int32.ofInt_toInt, Int64.ofInt_toInt, Int32.ofInt_add, Int32.ofInt_sub, Int32.ofInt_mul, Int64.ofInt_add, Int64.ofInt_mul, iadD, iorD, ixoD, ishD, isrD, iusD, idvD, irmD, landD, lorD, lshD, lsrD, lusD]] at k2
  exact lv_imul hC.1 hC.2.1 hd k2
theorem z_iand {a b : Int} (hd : decode M.1 pc = .ok (.iand, 1)) (kk : Wz p l e R s m args below meth c D G A H0 sg n0 M Q cells slots (pc + 1) lv ((0, iadD a b) :: st) h) : Wz p l e R s m args below meth c D G A H0 sg n0 M Q cells slots pc lv ((0, b) :: (0, a) :: st) h := by
  intro hC hh hn hlv hst H locs ls hw hS hls
  have k2 := kk hC hh hn hlv (stc (v := (0, iadD a b)) (R32_w _) (fun q hq => hst q (List.mem_cons_of_mem _ (List.mem_cons_of_mem _ hq)))) H locs ls hw hS hls
  have ha : R32 a := hst _ (List.mem_cons_of_mem _ List.mem_cons_self)
  have hb : R32 b := hst _ List.mem_cons_self
  rw [List.map_cons, show cv G.1 (0, iadD a b) = .int (Int32.ofInt a &&& Int32.ofInt b) from by simp only [cv, w32_ofInt, w64_ofInt, Int32.ofInt_toInt, Int64.ofInt_toInt, Int32.ofInt_add, Int32.ofInt_sub, Int32.ofInt_mul, Int64.ofInt_add, Int64.ofInt_mul, iadD, iorD, ixoD, ishD, isrD, iusD, idvD, irmD, landD, lorD, lshD, lsrD, lusD]] at k2
  exact lv_iand hC.1 hC.2.1 hd k2
theorem z_ior {a b : Int} (hd : decode M.1 pc = .ok (.ior, 1)) (kk : Wz p l e R s m args below meth c D G A H0 sg n0 M Q cells slots (pc + 1) lv ((0, iorD a b) :: st) h) : Wz p l e R s m args below meth c D G A H0 sg n0 M Q cells slots pc lv ((0, b) :: (0, a) :: st) h := by
  intro hC hh hn hlv hst H locs ls hw hS hls
  have k2 := kk hC hh hn hlv (stc (v := (0, iorD a b)) (R32_w _) (fun q hq => hst q (List.mem_cons_of_mem _ (List.mem_cons_of_mem _ hq)))) H locs ls hw hS hls
  have ha : R32 a := hst _ (List.mem_cons_of_mem _ List.mem_cons_self)
  have hb : R32 b := hst _ List.mem_cons_self
  rw [List.map_cons, show cv G.1 (0, iorD a b) = .int (Int32.ofInt a ||| Int32.ofInt b) from by simp only [cv, w32_ofInt, w64_ofInt, Int32.ofInt_toInt, Int64.ofInt_toInt, Int32.ofInt_add, Int32.ofInt_sub, Int32.ofInt_mul, Int64.ofInt_add, Int64.ofInt_mul, iadD, iorD, ixoD, ishD, isrD, iusD, idvD, irmD, landD, lorD, lshD, lsrD, lusD]] at k2
  exact lv_ior hC.1 hC.2.1 hd k2
theorem z_ixor {a b : Int} (hd : decode M.1 pc = .ok (.ixor, 1)) (kk : Wz p l e R s m args below meth c D G A H0 sg n0 M Q cells slots (pc + 1) lv ((0, ixoD a b) :: st) h) : Wz p l e R s m args below meth c D G A H0 sg n0 M Q cells slots pc lv ((0, b) :: (0, a) :: st) h := by
  intro hC hh hn hlv hst H locs ls hw hS hls
  have k2 := kk hC hh hn hlv (stc (v := (0, ixoD a b)) (R32_w _) (fun q hq => hst q (List.mem_cons_of_mem _ (List.mem_cons_of_mem _ hq)))) H locs ls hw hS hls
  have ha : R32 a := hst _ (List.mem_cons_of_mem _ List.mem_cons_self)
  have hb : R32 b := hst _ List.mem_cons_self
  rw [List.map_cons, show cv G.1 (0, ixoD a b) = .int (Int32.ofInt a ^^^ Int32.ofInt b) from by simp only [cv, w32_ofInt, w64_ofInt, Int32.ofInt_toInt, Int64.ofInt_toInt, Int32.ofInt_add, Int32.ofInt_sub, Int32.ofInt_mul, Int64.ofInt_add, Int64.ofInt_mul, iadD, iorD, ixoD, ishD, isrD, iusD, idvD, irmD, landD, lorD, lshD, lsrD, lusD]] at k2
  exact lv_ixor hC.1 hC.2.1 hd k2
theorem z_ishl {a b : Int} (hd : decode M.1 pc = .ok (.ishl, 1)) (kk : Wz p l e R s m args below meth c D G A H0 sg n0 M Q cells slots (pc + 1) lv ((0, ishD a b) :: st) h) : Wz p l e R s m args below meth c D G A H0 sg n0 M Q cells slots pc lv ((0, b) :: (0, a) :: st) h := by
  intro hC hh hn hlv hst H locs ls hw hS hls
  have k2 := kk hC hh hn hlv (stc (v := (0, ishD a b)) (R32_w _) (fun q hq => hst q (List.mem_cons_of_mem _ (List.mem_cons_of_mem _ hq)))) H locs ls hw hS hls
  have ha : R32 a := hst _ (List.mem_cons_of_mem _ List.mem_cons_self)
  have hb : R32 b := hst _ List.mem_cons_self
  rw [List.map_cons, show cv G.1 (0, ishD a b) = .int (Int32.ofInt a <<< (Int32.ofInt b &&& 31)) from by simp only [cv, w32_ofInt, w64_ofInt, Int32.ofInt_toInt, Int64.ofInt_toInt, Int32.ofInt_add, Int32.ofInt_sub, Int32.ofInt_mul, Int64.ofInt_add, Int64.ofInt_mul, iadD, iorD, ixoD, ishD, isrD, iusD, idvD, irmD, landD, lorD, lshD, lsrD, lusD]] at k2
  exact lv_ishl hC.1 hC.2.1 hd k2
theorem z_ishr {a b : Int} (hd : decode M.1 pc = .ok (.ishr, 1)) (kk : Wz p l e R s m args below meth c D G A H0 sg n0 M Q cells slots (pc + 1) lv ((0, isrD a b) :: st) h) : Wz p l e R s m args below meth c D G A H0 sg n0 M Q cells slots pc lv ((0, b) :: (0, a) :: st) h := by
  intro hC hh hn hlv hst H locs ls hw hS hls
  have k2 := kk hC hh hn hlv (stc (v := (0, isrD a b)) (R32_w _) (fun q hq => hst q (List.mem_cons_of_mem _ (List.mem_cons_of_mem _ hq)))) H locs ls hw hS hls
  have ha : R32 a := hst _ (List.mem_cons_of_mem _ List.mem_cons_self)
  have hb : R32 b := hst _ List.mem_cons_self
  rw [List.map_cons, show cv G.1 (0, isrD a b) = .int (Int32.ofInt a >>> (Int32.ofInt b &&& 31)) from by simp only [cv, w32_ofInt, w64_ofInt, Int32.ofInt_toInt, Int64.ofInt_toInt, Int32.ofInt_add, Int32.ofInt_sub, Int32.ofInt_mul, Int64.ofInt_add, Int64.ofInt_mul, iadD, iorD, ixoD, ishD, isrD, iusD, idvD, irmD, landD, lorD, lshD, lsrD, lusD]] at k2
  exact lv_ishr hC.1 hC.2.1 hd k2
theorem z_iushr {a b : Int} (hd : decode M.1 pc = .ok (.iushr, 1)) (kk : Wz p l e R s m args below meth c D G A H0 sg n0 M Q cells slots (pc + 1) lv ((0, iusD a b) :: st) h) : Wz p l e R s m args below meth c D G A H0 sg n0 M Q cells slots pc lv ((0, b) :: (0, a) :: st) h := by
  intro hC hh hn hlv hst H locs ls hw hS hls
  have k2 := kk hC hh hn hlv (stc (v := (0, iusD a b)) (R32_w _) (fun q hq => hst q (List.mem_cons_of_mem _ (List.mem_cons_of_mem _ hq)))) H locs ls hw hS hls
  have ha : R32 a := hst _ (List.mem_cons_of_mem _ List.mem_cons_self)
  have hb : R32 b := hst _ List.mem_cons_self
  rw [List.map_cons, show cv G.1 (0, iusD a b) = .int (((Int32.ofInt a).toUInt32 >>> ((Int32.ofInt b).toUInt32 &&& Int32.toUInt32 31)).toInt32) from by simp only [cv, w32_ofInt, w64_ofInt, Int32.ofInt_toInt, Int64.ofInt_toInt, Int32.ofInt_add, Int32.ofInt_sub, Int32.ofInt_mul, Int64.ofInt_add, Int64.ofInt_mul, iadD, iorD, ixoD, ishD, isrD, iusD, idvD, irmD, landD, lorD, lshD, lsrD, lusD]] at k2
  exact lv_iushr hC.1 hC.2.1 hd rfl k2
theorem z_idiv {a b : Int} (hd : decode M.1 pc = .ok (.idiv, 1)) (hb0 : ¬ b = 0) (kk : Wz p l e R s m args below meth c D G A H0 sg n0 M Q cells slots (pc + 1) lv ((0, idvD a b) :: st) h) : Wz p l e R s m args below meth c D G A H0 sg n0 M Q cells slots pc lv ((0, b) :: (0, a) :: st) h := by
  intro hC hh hn hlv hst H locs ls hw hS hls
  have k2 := kk hC hh hn hlv (stc (v := (0, idvD a b)) (R32_w _) (fun q hq => hst q (List.mem_cons_of_mem _ (List.mem_cons_of_mem _ hq)))) H locs ls hw hS hls
  have ha : R32 a := hst _ (List.mem_cons_of_mem _ List.mem_cons_self)
  have hb : R32 b := hst _ List.mem_cons_self
  rw [List.map_cons, show cv G.1 (0, idvD a b) = .int (Int32.ofInt a / Int32.ofInt b) from by simp only [cv, w32_ofInt, w64_ofInt, Int32.ofInt_toInt, Int64.ofInt_toInt, Int32.ofInt_add, Int32.ofInt_sub, Int32.ofInt_mul, Int64.ofInt_add, Int64.ofInt_mul, iadD, iorD, ixoD, ishD, isrD, iusD, idvD, irmD, landD, lorD, lshD, lsrD, lusD]] at k2
  exact lv_idiv hC.1 hC.2.1 hd (fun z => hb0 ((ofI_eq hb (by decide)).mp z)) k2
theorem z_irem {a b : Int} (hd : decode M.1 pc = .ok (.irem, 1)) (hb0 : ¬ b = 0) (kk : Wz p l e R s m args below meth c D G A H0 sg n0 M Q cells slots (pc + 1) lv ((0, irmD a b) :: st) h) : Wz p l e R s m args below meth c D G A H0 sg n0 M Q cells slots pc lv ((0, b) :: (0, a) :: st) h := by
  intro hC hh hn hlv hst H locs ls hw hS hls
  have k2 := kk hC hh hn hlv (stc (v := (0, irmD a b)) (R32_w _) (fun q hq => hst q (List.mem_cons_of_mem _ (List.mem_cons_of_mem _ hq)))) H locs ls hw hS hls
  have ha : R32 a := hst _ (List.mem_cons_of_mem _ List.mem_cons_self)
  have hb : R32 b := hst _ List.mem_cons_self
  rw [List.map_cons, show cv G.1 (0, irmD a b) = .int (Int32.ofInt a - Int32.ofInt a / Int32.ofInt b * Int32.ofInt b) from by simp only [cv, w32_ofInt, w64_ofInt, Int32.ofInt_toInt, Int64.ofInt_toInt, Int32.ofInt_add, Int32.ofInt_sub, Int32.ofInt_mul, Int64.ofInt_add, Int64.ofInt_mul, iadD, iorD, ixoD, ishD, isrD, iusD, idvD, irmD, landD, lorD, lshD, lsrD, lusD]] at k2
  exact lv_irem hC.1 hC.2.1 hd (fun z => hb0 ((ofI_eq hb (by decide)).mp z)) k2
theorem z_ladd {a b : Int} (hd : decode M.1 pc = .ok (.ladd, 1)) (kk : Wz p l e R s m args below meth c D G A H0 sg n0 M Q cells slots (pc + 1) lv ((1, w64 (a + b)) :: st) h) : Wz p l e R s m args below meth c D G A H0 sg n0 M Q cells slots pc lv ((1, b) :: (1, a) :: st) h := by
  intro hC hh hn hlv hst H locs ls hw hS hls
  have k2 := kk hC hh hn hlv (stc (v := (1, w64 (a + b))) (R64_w _) (fun q hq => hst q (List.mem_cons_of_mem _ (List.mem_cons_of_mem _ hq)))) H locs ls hw hS hls
  have ha : R64 a := hst _ (List.mem_cons_of_mem _ List.mem_cons_self)
  have hb : R64 b := hst _ List.mem_cons_self
  rw [List.map_cons, show cv G.1 (1, w64 (a + b)) = .long (Int64.ofInt a + Int64.ofInt b) from by simp only [cv, w32_ofInt, w64_ofInt, Int32.ofInt_toInt, Int64.ofInt_toInt, Int32.ofInt_add, Int32.ofInt_sub, Int32.ofInt_mul, Int64.ofInt_add, Int64.ofInt_mul, iadD, iorD, ixoD, ishD, isrD, iusD, idvD, irmD, landD, lorD, lshD, lsrD, lusD]] at k2
  exact lv_ladd hC.1 hC.2.1 hd k2
theorem z_lmul {a b : Int} (hd : decode M.1 pc = .ok (.lmul, 1)) (kk : Wz p l e R s m args below meth c D G A H0 sg n0 M Q cells slots (pc + 1) lv ((1, w64 (a * b)) :: st) h) : Wz p l e R s m args below meth c D G A H0 sg n0 M Q cells slots pc lv ((1, b) :: (1, a) :: st) h := by
  intro hC hh hn hlv hst H locs ls hw hS hls
  have k2 := kk hC hh hn hlv (stc (v := (1, w64 (a * b))) (R64_w _) (fun q hq => hst q (List.mem_cons_of_mem _ (List.mem_cons_of_mem _ hq)))) H locs ls hw hS hls
  have ha : R64 a := hst _ (List.mem_cons_of_mem _ List.mem_cons_self)
  have hb : R64 b := hst _ List.mem_cons_self
  rw [List.map_cons, show cv G.1 (1, w64 (a * b)) = .long (Int64.ofInt a * Int64.ofInt b) from by simp only [cv, w32_ofInt, w64_ofInt, Int32.ofInt_toInt, Int64.ofInt_toInt, Int32.ofInt_add, Int32.ofInt_sub, Int32.ofInt_mul, Int64.ofInt_add, Int64.ofInt_mul, iadD, iorD, ixoD, ishD, isrD, iusD, idvD, irmD, landD, lorD, lshD, lsrD, lusD]] at k2
  exact lv_lmul hC.1 hC.2.1 hd k2
theorem z_land {a b : Int} (hd : decode M.1 pc = .ok (.land, 1)) (kk : Wz p l e R s m args below meth c D G A H0 sg n0 M Q cells slots (pc + 1) lv ((1, landD a b) :: st) h) : Wz p l e R s m args below meth c D G A H0 sg n0 M Q cells slots pc lv ((1, b) :: (1, a) :: st) h := by
  intro hC hh hn hlv hst H locs ls hw hS hls
  have k2 := kk hC hh hn hlv (stc (v := (1, landD a b)) (R64_w _) (fun q hq => hst q (List.mem_cons_of_mem _ (List.mem_cons_of_mem _ hq)))) H locs ls hw hS hls
  have ha : R64 a := hst _ (List.mem_cons_of_mem _ List.mem_cons_self)
  have hb : R64 b := hst _ List.mem_cons_self
  rw [List.map_cons, show cv G.1 (1, landD a b) = .long (Int64.ofInt a &&& Int64.ofInt b) from by simp only [cv, w32_ofInt, w64_ofInt, Int32.ofInt_toInt, Int64.ofInt_toInt, Int32.ofInt_add, Int32.ofInt_sub, Int32.ofInt_mul, Int64.ofInt_add, Int64.ofInt_mul, iadD, iorD, ixoD, ishD, isrD, iusD, idvD, irmD, landD, lorD, lshD, lsrD, lusD]] at k2
  exact lv_land hC.1 hC.2.1 hd k2
theorem z_lor {a b : Int} (hd : decode M.1 pc = .ok (.lor, 1)) (kk : Wz p l e R s m args below meth c D G A H0 sg n0 M Q cells slots (pc + 1) lv ((1, lorD a b) :: st) h) : Wz p l e R s m args below meth c D G A H0 sg n0 M Q cells slots pc lv ((1, b) :: (1, a) :: st) h := by
  intro hC hh hn hlv hst H locs ls hw hS hls
  have k2 := kk hC hh hn hlv (stc (v := (1, lorD a b)) (R64_w _) (fun q hq => hst q (List.mem_cons_of_mem _ (List.mem_cons_of_mem _ hq)))) H locs ls hw hS hls
  have ha : R64 a := hst _ (List.mem_cons_of_mem _ List.mem_cons_self)
  have hb : R64 b := hst _ List.mem_cons_self
  rw [List.map_cons, show cv G.1 (1, lorD a b) = .long (Int64.ofInt a ||| Int64.ofInt b) from by simp only [cv, w32_ofInt, w64_ofInt, Int32.ofInt_toInt, Int64.ofInt_toInt, Int32.ofInt_add, Int32.ofInt_sub, Int32.ofInt_mul, Int64.ofInt_add, Int64.ofInt_mul, iadD, iorD, ixoD, ishD, isrD, iusD, idvD, irmD, landD, lorD, lshD, lsrD, lusD]] at k2
  exact lv_lor hC.1 hC.2.1 hd k2
theorem z_lshl {a b : Int} (hd : decode M.1 pc = .ok (.lshl, 1)) (kk : Wz p l e R s m args below meth c D G A H0 sg n0 M Q cells slots (pc + 1) lv ((1, lshD a b) :: st) h) : Wz p l e R s m args below meth c D G A H0 sg n0 M Q cells slots pc lv ((0, b) :: (1, a) :: st) h := by
  intro hC hh hn hlv hst H locs ls hw hS hls
  have k2 := kk hC hh hn hlv (stc (v := (1, lshD a b)) (R64_w _) (fun q hq => hst q (List.mem_cons_of_mem _ (List.mem_cons_of_mem _ hq)))) H locs ls hw hS hls
  have ha : R64 a := hst _ (List.mem_cons_of_mem _ List.mem_cons_self)
  have hb : R32 b := hst _ List.mem_cons_self
  rw [List.map_cons, show cv G.1 (1, lshD a b) = .long (Int64.ofInt a <<< ((Int32.ofInt b).toInt64 &&& 63)) from by simp only [cv, w32_ofInt, w64_ofInt, Int32.ofInt_toInt, Int64.ofInt_toInt, Int32.ofInt_add, Int32.ofInt_sub, Int32.ofInt_mul, Int64.ofInt_add, Int64.ofInt_mul, iadD, iorD, ixoD, ishD, isrD, iusD, idvD, irmD, landD, lorD, lshD, lsrD, lusD]] at k2
  exact lv_lshl hC.1 hC.2.1 hd rfl k2
theorem z_lshr {a b : Int} (hd : decode M.1 pc = .ok (.lshr, 1)) (kk : Wz p l e R s m args below meth c D G A H0 sg n0 M Q cells slots (pc + 1) lv ((1, lsrD a b) :: st) h) : Wz p l e R s m args below meth c D G A H0 sg n0 M Q cells slots pc lv ((0, b) :: (1, a) :: st) h := by
  intro hC hh hn hlv hst H locs ls hw hS hls
  have k2 := kk hC hh hn hlv (stc (v := (1, lsrD a b)) (R64_w _) (fun q hq => hst q (List.mem_cons_of_mem _ (List.mem_cons_of_mem _ hq)))) H locs ls hw hS hls
  have ha : R64 a := hst _ (List.mem_cons_of_mem _ List.mem_cons_self)
  have hb : R32 b := hst _ List.mem_cons_self
  rw [List.map_cons, show cv G.1 (1, lsrD a b) = .long (Int64.ofInt a >>> ((Int32.ofInt b).toInt64 &&& 63)) from by simp only [cv, w32_ofInt, w64_ofInt, Int32.ofInt_toInt, Int64.ofInt_toInt, Int32.ofInt_add, Int32.ofInt_sub, Int32.ofInt_mul, Int64.ofInt_add, Int64.ofInt_mul, iadD, iorD, ixoD, ishD, isrD, iusD, idvD, irmD, landD, lorD, lshD, lsrD, lusD]] at k2
  exact lv_lshr hC.1 hC.2.1 hd rfl k2
theorem z_lushr {a b : Int} (hd : decode M.1 pc = .ok (.lushr, 1)) (kk : Wz p l e R s m args below meth c D G A H0 sg n0 M Q cells slots (pc + 1) lv ((1, lusD a b) :: st) h) : Wz p l e R s m args below meth c D G A H0 sg n0 M Q cells slots pc lv ((0, b) :: (1, a) :: st) h := by
  intro hC hh hn hlv hst H locs ls hw hS hls
  have k2 := kk hC hh hn hlv (stc (v := (1, lusD a b)) (R64_w _) (fun q hq => hst q (List.mem_cons_of_mem _ (List.mem_cons_of_mem _ hq)))) H locs ls hw hS hls
  have ha : R64 a := hst _ (List.mem_cons_of_mem _ List.mem_cons_self)
  have hb : R32 b := hst _ List.mem_cons_self
  rw [List.map_cons, show cv G.1 (1, lusD a b) = .long (((Int64.ofInt a).toUInt64 >>> ((Int32.ofInt b).toInt64.toUInt64 &&& Int64.toUInt64 63)).toInt64) from by simp only [cv, w32_ofInt, w64_ofInt, Int32.ofInt_toInt, Int64.ofInt_toInt, Int32.ofInt_add, Int32.ofInt_sub, Int32.ofInt_mul, Int64.ofInt_add, Int64.ofInt_mul, iadD, iorD, ixoD, ishD, isrD, iusD, idvD, irmD, landD, lorD, lshD, lsrD, lusD]] at k2
  exact lv_lushr hC.1 hC.2.1 hd rfl k2
theorem z_ineg {a : Int} (hd : decode M.1 pc = .ok (.ineg, 1)) (kk : Wz p l e R s m args below meth c D G A H0 sg n0 M Q cells slots (pc + 1) lv ((0, w32 (-a)) :: st) h) : Wz p l e R s m args below meth c D G A H0 sg n0 M Q cells slots pc lv ((0, a) :: st) h := by
  intro hC hh hn hlv hst H locs ls hw hS hls
  have k2 := kk hC hh hn hlv (stc (v := (0, w32 (-a))) (R32_w _) (fun q hq => hst q (List.mem_cons_of_mem _ hq))) H locs ls hw hS hls
  rw [List.map_cons, show cv G.1 (0, w32 (-a)) = .int (-(Int32.ofInt a)) from by simp only [cv, w32_ofInt, Int32.ofInt_neg]] at k2
  exact lv_ineg hC.1 hC.2.1 hd k2
theorem z_i2b {a : Int} (hd : decode M.1 pc = .ok (.i2b, 1)) (kk : Wz p l e R s m args below meth c D G A H0 sg n0 M Q cells slots (pc + 1) lv ((0, i2bD a) :: st) h) : Wz p l e R s m args below meth c D G A H0 sg n0 M Q cells slots pc lv ((0, a) :: st) h := by
  intro hC hh hn hlv hst H locs ls hw hS hls
  have k2 := kk hC hh hn hlv (stc (v := (0, i2bD a)) (R32_w _) (fun q hq => hst q (List.mem_cons_of_mem _ hq))) H locs ls hw hS hls
  rw [List.map_cons, show cv G.1 (0, i2bD a) = .int ((Int32.ofInt a).toInt8.toInt32) from by simp only [cv, i2bD, w32_ofInt, Int32.ofInt_toInt]] at k2
  exact lv_i2b hC.1 hC.2.1 hd rfl k2
theorem z_i2l {a : Int} (hd : decode M.1 pc = .ok (.i2l, 1)) (kk : Wz p l e R s m args below meth c D G A H0 sg n0 M Q cells slots (pc + 1) lv ((1, a) :: st) h) : Wz p l e R s m args below meth c D G A H0 sg n0 M Q cells slots pc lv ((0, a) :: st) h := by
  intro hC hh hn hlv hst H locs ls hw hS hls
  have ha : R32 a := hst _ List.mem_cons_self
  have h64 : R64 a := by rw [R64_iff]; rw [R32_iff] at ha; omega
  have k2 := kk hC hh hn hlv (stc (v := (1, a)) h64 (fun q hq => hst q (List.mem_cons_of_mem _ hq))) H locs ls hw hS hls
  exact lv_i2l hC.1 hC.2.1 hd (by apply Int64.toInt_inj.mp; rw [Int32.toInt_toInt64, ha.toI, h64.toI]) k2
theorem z_l2i {a : Int} (hd : decode M.1 pc = .ok (.l2i, 1)) (kk : Wz p l e R s m args below meth c D G A H0 sg n0 M Q cells slots (pc + 1) lv ((0, w32 a) :: st) h) : Wz p l e R s m args below meth c D G A H0 sg n0 M Q cells slots pc lv ((1, a) :: st) h := by
  intro hC hh hn hlv hst H locs ls hw hS hls
  have ha : R64 a := hst _ List.mem_cons_self
  have k2 := kk hC hh hn hlv (stc (v := (0, w32 a)) (R32_w _) (fun q hq => hst q (List.mem_cons_of_mem _ hq))) H locs ls hw hS hls
  exact lv_l2i hC.1 hC.2.1 hd (by rw [w32_ofInt]; apply Int32.toInt_inj.mp; rw [Int64.toInt_toInt32, ha.toI, Int32.toInt_ofInt]) k2
theorem z_lcmp {a b : Int} (hd : decode M.1 pc = .ok (.lcmp, 1)) (kk : Wz p l e R s m args below meth c D G A H0 sg n0 M Q cells slots (pc + 1) lv ((0, lcmD a b) :: st) h) : Wz p l e R s m args below meth c D G A H0 sg n0 M Q cells slots pc lv ((1, b) :: (1, a) :: st) h := by
  intro hC hh hn hlv hst H locs ls hw hS hls
  have ha : R64 a := hst _ (List.mem_cons_of_mem _ List.mem_cons_self)
  have hb : R64 b := hst _ List.mem_cons_self
  have hr : R32 (lcmD a b) := by unfold lcmD; (repeat' split) <;> decide
  have k2 := kk hC hh hn hlv (stc (v := (0, lcmD a b)) hr (fun q hq => hst q (List.mem_cons_of_mem _ (List.mem_cons_of_mem _ hq)))) H locs ls hw hS hls
  rw [List.map_cons, show cv G.1 (0, lcmD a b) = .int (lg_cmp (Int64.ofInt a) (Int64.ofInt b)) from by
    have e1 : Int64.ofInt a < Int64.ofInt b ↔ a < b := by rw [Int64.lt_iff_toInt_lt, ha.toI, hb.toI]
    have e2 : Int64.ofInt b < Int64.ofInt a ↔ b < a := by rw [Int64.lt_iff_toInt_lt, ha.toI, hb.toI]
    have e3 : Int64.ofInt a = Int64.ofInt b ↔ a = b := by rw [← Int64.toInt_inj, ha.toI, hb.toI]
    simp only [cv, lcmD, lg_cmp, gt_iff_lt, e2, e3]
    rcases Int.lt_trichotomy a b with z | z | z
    · rw [if_pos z, if_neg (by omega), if_neg (by omega)]; rfl
    · rw [if_neg (by omega), if_pos z, if_neg (by omega), if_pos z]; rfl
    · rw [if_neg (by omega), if_neg (by omega), if_pos z]; rfl] at k2
  exact W.lcmp hC.1 hC.2.1 hd k2
theorem z_icmp_lt {a b : Int} {off : Int} {tgt : Nat} (hd : decode M.1 pc = .ok (.if_icmp .lt off, 3)) (ht : (pc : Int) + off = (tgt : Int)) (kt : a < b → Wz p l e R s m args below meth c D G A H0 sg n0 M Q cells slots tgt lv st h) (kk : ¬ (a < b) → Wz p l e R s m args below meth c D G A H0 sg n0 M Q cells slots (pc + 3) lv st h) : Wz p l e R s m args below meth c D G A H0 sg n0 M Q cells slots pc lv ((0, b) :: (0, a) :: st) h := by
  intro hC hh hn hlv hst H locs ls hw hS hls
  have ha : R32 a := hst _ (List.mem_cons_of_mem _ List.mem_cons_self)
  have hb : R32 b := hst _ List.mem_cons_self
  exact lv_icmp_lt hC.1 hC.2.1 hd ht (fun z => kt ((ofI_lt ha hb).mp z) hC hh hn hlv (fun q hq => hst q (List.mem_cons_of_mem _ (List.mem_cons_of_mem _ hq))) H locs ls hw hS hls) (fun z => kk (fun y => z ((ofI_lt ha hb).mpr y)) hC hh hn hlv (fun q hq => hst q (List.mem_cons_of_mem _ (List.mem_cons_of_mem _ hq))) H locs ls hw hS hls)
theorem z_icmp_ge {a b : Int} {off : Int} {tgt : Nat} (hd : decode M.1 pc = .ok (.if_icmp .ge off, 3)) (ht : (pc : Int) + off = (tgt : Int)) (kt : ¬ a < b → Wz p l e R s m args below meth c D G A H0 sg n0 M Q cells slots tgt lv st h) (kk : a < b → Wz p l e R s m args below meth c D G A H0 sg n0 M Q cells slots (pc + 3) lv st h) : Wz p l e R s m args below meth c D G A H0 sg n0 M Q cells slots pc lv ((0, b) :: (0, a) :: st) h := by
  intro hC hh hn hlv hst H locs ls hw hS hls
  have ha : R32 a := hst _ (List.mem_cons_of_mem _ List.mem_cons_self)
  have hb : R32 b := hst _ List.mem_cons_self
  exact lv_icmp_ge hC.1 hC.2.1 hd ht (fun z => kt (Int.not_lt.mpr ((ofI_le hb ha).mp z)) hC hh hn hlv (fun q hq => hst q (List.mem_cons_of_mem _ (List.mem_cons_of_mem _ hq))) H locs ls hw hS hls) (fun z => kk (Int.not_le.mp (fun y => z ((ofI_le hb ha).mpr y))) hC hh hn hlv (fun q hq => hst q (List.mem_cons_of_mem _ (List.mem_cons_of_mem _ hq))) H locs ls hw hS hls)
theorem z_icmp_gt {a b : Int} {off : Int} {tgt : Nat} (hd : decode M.1 pc = .ok (.if_icmp .gt off, 3)) (ht : (pc : Int) + off = (tgt : Int)) (kt : b < a → Wz p l e R s m args below meth c D G A H0 sg n0 M Q cells slots tgt lv st h) (kk : ¬ (b < a) → Wz p l e R s m args below meth c D G A H0 sg n0 M Q cells slots (pc + 3) lv st h) : Wz p l e R s m args below meth c D G A H0 sg n0 M Q cells slots pc lv ((0, b) :: (0, a) :: st) h := by
  intro hC hh hn hlv hst H locs ls hw hS hls
  have ha : R32 a := hst _ (List.mem_cons_of_mem _ List.mem_cons_self)
  have hb : R32 b := hst _ List.mem_cons_self
  exact lv_icmp_gt hC.1 hC.2.1 hd ht (fun z => kt ((ofI_lt hb ha).mp z) hC hh hn hlv (fun q hq => hst q (List.mem_cons_of_mem _ (List.mem_cons_of_mem _ hq))) H locs ls hw hS hls) (fun z => kk (fun y => z ((ofI_lt hb ha).mpr y)) hC hh hn hlv (fun q hq => hst q (List.mem_cons_of_mem _ (List.mem_cons_of_mem _ hq))) H locs ls hw hS hls)
theorem z_icmp_le {a b : Int} {off : Int} {tgt : Nat} (hd : decode M.1 pc = .ok (.if_icmp .le off, 3)) (ht : (pc : Int) + off = (tgt : Int)) (kt : ¬ b < a → Wz p l e R s m args below meth c D G A H0 sg n0 M Q cells slots tgt lv st h) (kk : b < a → Wz p l e R s m args below meth c D G A H0 sg n0 M Q cells slots (pc + 3) lv st h) : Wz p l e R s m args below meth c D G A H0 sg n0 M Q cells slots pc lv ((0, b) :: (0, a) :: st) h := by
  intro hC hh hn hlv hst H locs ls hw hS hls
  have ha : R32 a := hst _ (List.mem_cons_of_mem _ List.mem_cons_self)
  have hb : R32 b := hst _ List.mem_cons_self
  exact lv_icmp_le hC.1 hC.2.1 hd ht (fun z => kt (Int.not_lt.mpr ((ofI_le ha hb).mp z)) hC hh hn hlv (fun q hq => hst q (List.mem_cons_of_mem _ (List.mem_cons_of_mem _ hq))) H locs ls hw hS hls) (fun z => kk (Int.not_le.mp (fun y => z ((ofI_le ha hb).mpr y))) hC hh hn hlv (fun q hq => hst q (List.mem_cons_of_mem _ (List.mem_cons_of_mem _ hq))) H locs ls hw hS hls)
theorem z_icmp_eq {a b : Int} {off : Int} {tgt : Nat} (hd : decode M.1 pc = .ok (.if_icmp .eq off, 3)) (ht : (pc : Int) + off = (tgt : Int)) (kt : a = b → Wz p l e R s m args below meth c D G A H0 sg n0 M Q cells slots tgt lv st h) (kk : ¬ (a = b) → Wz p l e R s m args below meth c D G A H0 sg n0 M Q cells slots (pc + 3) lv st h) : Wz p l e R s m args below meth c D G A H0 sg n0 M Q cells slots pc lv ((0, b) :: (0, a) :: st) h := by
  intro hC hh hn hlv hst H locs ls hw hS hls
  have ha : R32 a := hst _ (List.mem_cons_of_mem _ List.mem_cons_self)
  have hb : R32 b := hst _ List.mem_cons_self
  exact lv_icmp_eq hC.1 hC.2.1 hd ht (fun z => kt ((ofI_eq ha hb).mp z) hC hh hn hlv (fun q hq => hst q (List.mem_cons_of_mem _ (List.mem_cons_of_mem _ hq))) H locs ls hw hS hls) (fun z => kk (fun y => z ((ofI_eq ha hb).mpr y)) hC hh hn hlv (fun q hq => hst q (List.mem_cons_of_mem _ (List.mem_cons_of_mem _ hq))) H locs ls hw hS hls)
theorem z_icmp_ne {a b : Int} {off : Int} {tgt : Nat} (hd : decode M.1 pc = .ok (.if_icmp .ne off, 3)) (ht : (pc : Int) + off = (tgt : Int)) (kt : a ≠ b → Wz p l e R s m args below meth c D G A H0 sg n0 M Q cells slots tgt lv st h) (kk : a = b → Wz p l e R s m args below meth c D G A H0 sg n0 M Q cells slots (pc + 3) lv st h) : Wz p l e R s m args below meth c D G A H0 sg n0 M Q cells slots pc lv ((0, b) :: (0, a) :: st) h := by
  intro hC hh hn hlv hst H locs ls hw hS hls
  have ha : R32 a := hst _ (List.mem_cons_of_mem _ List.mem_cons_self)
  have hb : R32 b := hst _ List.mem_cons_self
  exact lv_icmp_ne hC.1 hC.2.1 hd ht (fun z => kt ((not_congr (ofI_eq ha hb)).mp z) hC hh hn hlv (fun q hq => hst q (List.mem_cons_of_mem _ (List.mem_cons_of_mem _ hq))) H locs ls hw hS hls) (fun z => kk ((ofI_eq ha hb).mp z) hC hh hn hlv (fun q hq => hst q (List.mem_cons_of_mem _ (List.mem_cons_of_mem _ hq))) H locs ls hw hS hls)
theorem z_if_lt {a : Int} {off : Int} {tgt : Nat} (hd : decode M.1 pc = .ok (.ifCond .lt off, 3)) (ht : (pc : Int) + off = (tgt : Int)) (kt : a < 0 → Wz p l e R s m args below meth c D G A H0 sg n0 M Q cells slots tgt lv st h) (kk : ¬ (a < 0) → Wz p l e R s m args below meth c D G A H0 sg n0 M Q cells slots (pc + 3) lv st h) : Wz p l e R s m args below meth c D G A H0 sg n0 M Q cells slots pc lv ((0, a) :: st) h := by
  intro hC hh hn hlv hst H locs ls hw hS hls
  have ha : R32 a := hst _ List.mem_cons_self
  exact lv_if_lt hC.1 hC.2.1 hd ht (fun z => kt ((ofI_lt ha (show R32 0 from by decide)).mp z) hC hh hn hlv (fun q hq => hst q (List.mem_cons_of_mem _ hq)) H locs ls hw hS hls) (fun z => kk (fun y => z ((ofI_lt ha (show R32 0 from by decide)).mpr y)) hC hh hn hlv (fun q hq => hst q (List.mem_cons_of_mem _ hq)) H locs ls hw hS hls)
theorem z_if_ge {a : Int} {off : Int} {tgt : Nat} (hd : decode M.1 pc = .ok (.ifCond .ge off, 3)) (ht : (pc : Int) + off = (tgt : Int)) (kt : ¬ a < 0 → Wz p l e R s m args below meth c D G A H0 sg n0 M Q cells slots tgt lv st h) (kk : a < 0 → Wz p l e R s m args below meth c D G A H0 sg n0 M Q cells slots (pc + 3) lv st h) : Wz p l e R s m args below meth c D G A H0 sg n0 M Q cells slots pc lv ((0, a) :: st) h := by
  intro hC hh hn hlv hst H locs ls hw hS hls
  have ha : R32 a := hst _ List.mem_cons_self
  exact lv_if_ge hC.1 hC.2.1 hd ht (fun z => kt (Int.not_lt.mpr ((ofI_le (show R32 0 from by decide) ha).mp z)) hC hh hn hlv (fun q hq => hst q (List.mem_cons_of_mem _ hq)) H locs ls hw hS hls) (fun z => kk (Int.not_le.mp (fun y => z ((ofI_le (show R32 0 from by decide) ha).mpr y))) hC hh hn hlv (fun q hq => hst q (List.mem_cons_of_mem _ hq)) H locs ls hw hS hls)
theorem z_if_gt {a : Int} {off : Int} {tgt : Nat} (hd : decode M.1 pc = .ok (.ifCond .gt off, 3)) (ht : (pc : Int) + off = (tgt : Int)) (kt : 0 < a → Wz p l e R s m args below meth c D G A H0 sg n0 M Q cells slots tgt lv st h) (kk : ¬ (0 < a) → Wz p l e R s m args below meth c D G A H0 sg n0 M Q cells slots (pc + 3) lv st h) : Wz p l e R s m args below meth c D G A H0 sg n0 M Q cells slots pc lv ((0, a) :: st) h := by
  intro hC hh hn hlv hst H locs ls hw hS hls
  have ha : R32 a := hst _ List.mem_cons_self
  exact lv_if_gt hC.1 hC.2.1 hd ht (fun z => kt ((ofI_lt (show R32 0 from by decide) ha).mp z) hC hh hn hlv (fun q hq => hst q (List.mem_cons_of_mem _ hq)) H locs ls hw hS hls) (fun z => kk (fun y => z ((ofI_lt (show R32 0 from by decide) ha).mpr y)) hC hh hn hlv (fun q hq => hst q (List.mem_cons_of_mem _ hq)) H locs ls hw hS hls)
theorem z_if_le {a : Int} {off : Int} {tgt : Nat} (hd : decode M.1 pc = .ok (.ifCond .le off, 3)) (ht : (pc : Int) + off = (tgt : Int)) (kt : ¬ 0 < a → Wz p l e R s m args below meth c D G A H0 sg n0 M Q cells slots tgt lv st h) (kk : 0 < a → Wz p l e R s m args below meth c D G A H0 sg n0 M Q cells slots (pc + 3) lv st h) : Wz p l e R s m args below meth c D G A H0 sg n0 M Q cells slots pc lv ((0, a) :: st) h := by
  intro hC hh hn hlv hst H locs ls hw hS hls
  have ha : R32 a := hst _ List.mem_cons_self
  exact lv_if_le hC.1 hC.2.1 hd ht (fun z => kt (Int.not_lt.mpr ((ofI_le ha (show R32 0 from by decide)).mp z)) hC hh hn hlv (fun q hq => hst q (List.mem_cons_of_mem _ hq)) H locs ls hw hS hls) (fun z => kk (Int.not_le.mp (fun y => z ((ofI_le ha (show R32 0 from by decide)).mpr y))) hC hh hn hlv (fun q hq => hst q (List.mem_cons_of_mem _ hq)) H locs ls hw hS hls)
theorem z_if_eq {a : Int} {off : Int} {tgt : Nat} (hd : decode M.1 pc = .ok (.ifCond .eq off, 3)) (ht : (pc : Int) + off = (tgt : Int)) (kt : a = 0 → Wz p l e R s m args below meth c D G A H0 sg n0 M Q cells slots tgt lv st h) (kk : ¬ (a = 0) → Wz p l e R s m args below meth c D G A H0 sg n0 M Q cells slots (pc + 3) lv st h) : Wz p l e R s m args below meth c D G A H0 sg n0 M Q cells slots pc lv ((0, a) :: st) h := by
  intro hC hh hn hlv hst H locs ls hw hS hls
  have ha : R32 a := hst _ List.mem_cons_self
  exact lv_if_eq hC.1 hC.2.1 hd ht (fun z => kt ((ofI_eq ha (show R32 0 from by decide)).mp z) hC hh hn hlv (fun q hq => hst q (List.mem_cons_of_mem _ hq)) H locs ls hw hS hls) (fun z => kk (fun y => z ((ofI_eq ha (show R32 0 from by decide)).mpr y)) hC hh hn hlv (fun q hq => hst q (List.mem_cons_of_mem _ hq)) H locs ls hw hS hls)
theorem z_if_ne {a : Int} {off : Int} {tgt : Nat} (hd : decode M.1 pc = .ok (.ifCond .ne off, 3)) (ht : (pc : Int) + off = (tgt : Int)) (kt : a ≠ 0 → Wz p l e R s m args below meth c D G A H0 sg n0 M Q cells slots tgt lv st h) (kk : a = 0 → Wz p l e R s m args below meth c D G A H0 sg n0 M Q cells slots (pc + 3) lv st h) : Wz p l e R s m args below meth c D G A H0 sg n0 M Q cells slots pc lv ((0, a) :: st) h := by
  intro hC hh hn hlv hst H locs ls hw hS hls
  have ha : R32 a := hst _ List.mem_cons_self
  exact lv_if_ne hC.1 hC.2.1 hd ht (fun z => kt ((not_congr (ofI_eq ha (show R32 0 from by decide))).mp z) hC hh hn hlv (fun q hq => hst q (List.mem_cons_of_mem _ hq)) H locs ls hw hS hls) (fun z => kk ((ofI_eq ha (show R32 0 from by decide)).mp z) hC hh hn hlv (fun q hq => hst q (List.mem_cons_of_mem _ hq)) H locs ls hw hS hls)
theorem z_goto {off : Int} {tgt : Nat} (hd : decode M.1 pc = .ok (.goto off, 3)) (ht : (pc : Int) + off = (tgt : Int)) (kk : Wz p l e R s m args below meth c D G A H0 sg n0 M Q cells slots tgt lv st h) : Wz p l e R s m args below meth c D G A H0 sg n0 M Q cells slots pc lv st h := by
  intro hC hh hn hlv hst H locs ls hw hS hls
  exact lv_goto hC.1 hC.2.1 hd ht (kk hC hh hn hlv hst H locs ls hw hS hls)
theorem z_ifnull {v : vV} (hv : 3 ≤ v.1) {off : Int} {tgt : Nat} (hd : decode M.1 pc = .ok (.ifnull off, 3)) (ht : (pc : Int) + off = (tgt : Int)) (k0 : v.2 < 0 → Wz p l e R s m args below meth c D G A H0 sg n0 M Q cells slots tgt lv st h) (kk : 0 ≤ v.2 → Wz p l e R s m args below meth c D G A H0 sg n0 M Q cells slots (pc + 3) lv st h) : Wz p l e R s m args below meth c D G A H0 sg n0 M Q cells slots pc lv (v :: st) h := by
  obtain ⟨t, y⟩ := v
  intro hC hh hn hlv hst H locs ls hw hS hls
  rw [List.map_cons]
  by_cases z : y < 0
  · have e9 : cv G.1 (t, y) = .null := by
      match t, hv with
      | t + 3, _ => rw [cv_ge, if_pos z]
    rw [e9]
    exact lv_ifnullN hC.1 hC.2.1 hd ht (k0 z hC hh hn hlv (fun q hq => hst q (List.mem_cons_of_mem _ hq)) H locs ls hw hS hls)
  · rw [cv_refn G.1 hv (by omega)]
    exact lv_ifnull hC.1 hC.2.1 hd (kk (by dsimp only; omega) hC hh hn hlv (fun q hq => hst q (List.mem_cons_of_mem _ hq)) H locs ls hw hS hls)
theorem z_ifnonnull {v : vV} (hv : 3 ≤ v.1) {off : Int} {tgt : Nat} (hd : decode M.1 pc = .ok (.ifnonnull off, 3)) (ht : (pc : Int) + off = (tgt : Int)) (k0 : v.2 < 0 → Wz p l e R s m args below meth c D G A H0 sg n0 M Q cells slots (pc + 3) lv st h) (kk : 0 ≤ v.2 → Wz p l e R s m args below meth c D G A H0 sg n0 M Q cells slots tgt lv st h) : Wz p l e R s m args below meth c D G A H0 sg n0 M Q cells slots pc lv (v :: st) h := by
  obtain ⟨t, y⟩ := v
  intro hC hh hn hlv hst H locs ls hw hS hls
  rw [List.map_cons]
  by_cases z : y < 0
  · have e9 : cv G.1 (t, y) = .null := by
      match t, hv with
      | t + 3, _ => rw [cv_ge, if_pos z]
    rw [e9]
    exact lv_ifnonnullN hC.1 hC.2.1 hd (k0 z hC hh hn hlv (fun q hq => hst q (List.mem_cons_of_mem _ hq)) H locs ls hw hS hls)
  · rw [cv_refn G.1 hv (by omega)]
    exact lv_ifnonnull hC.1 hC.2.1 hd ht (kk (by dsimp only; omega) hC hh hn hlv (fun q hq => hst q (List.mem_cons_of_mem _ hq)) H locs ls hw hS hls)
theorem z_tableOut {dflt lo hi : Int} {offs : Array Int} {len : Nat} {a : Int} {tgt : Nat} (hd : decode M.1 pc = .ok (.tableswitch dflt lo hi offs, len)) (h1 : a < lo ∨ hi < a) (ht : (pc : Int) + dflt = (tgt : Int)) (kk : Wz p l e R s m args below meth c D G A H0 sg n0 M Q cells slots tgt lv st h) : Wz p l e R s m args below meth c D G A H0 sg n0 M Q cells slots pc lv ((0, a) :: st) h := by
  intro hC hh hn hlv hst H locs ls hw hS hls
  have ha : R32 a := hst _ List.mem_cons_self
  exact lv_tableOut hC.1 hC.2.1 hd (by rw [ha.toI]; exact h1) ht (kk hC hh hn hlv (fun q hq => hst q (List.mem_cons_of_mem _ hq)) H locs ls hw hS hls)
theorem z_tableIn {dflt lo hi : Int} {offs : Array Int} {len : Nat} {a off : Int} {tgt : Nat} (hd : decode M.1 pc = .ok (.tableswitch dflt lo hi offs, len)) (h1 : lo ≤ a) (h2 : a ≤ hi) (ho : offs[(a - lo).toNat]? = some off) (ht : (pc : Int) + off = (tgt : Int)) (kk : Wz p l e R s m args below meth c D G A H0 sg n0 M Q cells slots tgt lv st h) : Wz p l e R s m args below meth c D G A H0 sg n0 M Q cells slots pc lv ((0, a) :: st) h := by
  intro hC hh hn hlv hst H locs ls hw hS hls
  have ha : R32 a := hst _ List.mem_cons_self
  exact lv_tableIn hC.1 hC.2.1 hd (by rw [ha.toI]; omega) (by rw [ha.toI]; omega) (by rw [ha.toI]; exact ho) ht (kk hC hh hn hlv (fun q hq => hst q (List.mem_cons_of_mem _ hq)) H locs ls hw hS hls)
theorem z_lookup {dflt : Int} {ps : Array (Int × Int)} {len : Nat} {a off : Int} {tgt : Nat} (hd : decode M.1 pc = .ok (.lookupswitch dflt ps, len)) (hp : (ps.toList.zip (ps.toList.drop 1)).all (fun (a, next) => a.1 < next.1) = true) (ho : Op.lookupswitch.offset ps.toList dflt a = off) (ht : (pc : Int) + off = (tgt : Int)) (kk : Wz p l e R s m args below meth c D G A H0 sg n0 M Q cells slots tgt lv st h) : Wz p l e R s m args below meth c D G A H0 sg n0 M Q cells slots pc lv ((0, a) :: st) h := by
  intro hC hh hn hlv hst H locs ls hw hS hls
  have ha : R32 a := hst _ List.mem_cons_self
  exact lv_lookup hC.1 hC.2.1 hd hp (by rw [ha.toI]; exact ho) ht (kk hC hh hn hlv (fun q hq => hst q (List.mem_cons_of_mem _ hq)) H locs ls hw hS hls)
theorem z_null {t : Nat} (ht : 100 ≤ t) (hd : decode M.1 pc = .ok (.aconst_null, 1)) (kk : Wz p l e R s m args below meth c D G A H0 sg n0 M Q cells slots (pc + 1) lv ((t, -1) :: st) h) : Wz p l e R s m args below meth c D G A H0 sg n0 M Q cells slots pc lv st h := by
  intro hC hh hn hlv hst H locs ls hw hS hls
  have hT9 : hT (nn h) t (-1) := by
    match t, ht with
    | t + 3, ht => exact Or.inl ⟨ht, rfl⟩
  have k2 := kk hC hh hn hlv (stc (v := (t, -1)) hT9 hst) H locs ls hw hS hls
  rw [List.map_cons, show cv G.1 (t, -1) = .null from by
    match t, ht with
    | t + 3, _ => rfl] at k2
  exact lv_null hC.1 hC.2.1 hd k2
theorem z_get (ci k : Nat) {T : u_T} {C : String} {N i : Nat} {ref : String} {o : Int} {w : vV} (hc : vwCl[ci]? = some (C, T, N)) (hci : ci < 13) (hN : nf ci = N) (hk : k < N) (hin : ∀ w ∈ u_ws C T N, w ∈ wsL_law) (hlink : Cond.fieldLink M.2.2.1 i ref (T k).2.1 (T k).2.2.1 ∈ wsL_law) (hsame : (T k).1 = ref)
    (hd : decode M.1 pc = .ok (.getfield i, 3)) (hw9 : (fT sg ci k, h o k) = w) (kk : Wz p l e R s m args below meth c D G A H0 sg n0 M Q cells slots (pc + 3) lv (w :: st) h) : Wz p l e R s m args below meth c D G A H0 sg n0 M Q cells slots pc lv ((10 + ci, o) :: st) h := by
  subst hw9
  intro hC hh hn hlv hst H locs ls hw hS hls
  have ho : hT (nn h) (10 + ci) o := hst _ List.mem_cons_self
  obtain ⟨h0, h1, h2⟩ := kOk (by omega) (by omega) ho
  have k2 := kk hC hh hn hlv (stc (v := (fT sg ci k, h o k)) (hh.fld hci (by rw [hN]; exact hk) ho) (fun q hq => hst q (List.mem_cons_of_mem _ hq))) H locs ls hw hS hls
  have hx := hC.2.2.2.2.2.2.2.2.1
  rw [List.map_cons, cv_refn G.1 (by omega) h0]
  refine va_get (D := D) (ci := ci) (fs := (List.range (nf ci)).map (fun j => cv G.1 (fT true ci j, h o j))) (C := C) (T := T) (N := N) hC.1 hC.2.1 hx hin hC.2.2.2.1 hC.2.2.2.2.2.2.2.2.2.2.1 hw.1 o.toNat (by rw [wld_get h0 h1, h2, cel_obj hci]) hc k hk (hx _ hlink) (fun _ h9 => by rw [← hsame]; exact h9) (v := cv G.1 (fT sg ci k, h o k)) ?_ hd k2
  rw [List.getElem?_map, List.getElem?_range (by rw [hN]; exact hk), Option.map_some]
  congr 1
  cases sg with
  | true => rfl
  | false =>
    simp only [fT]
    generalize (fTl.getD ci []).getD k 0 = t
    rcases Nat.lt_or_ge t 10 with z | z
    · rw [if_neg (by simp), if_neg (by omega)]
    · rw [if_neg (by simp), if_pos ⟨trivial, z⟩]
      match t, z with
      | t + 3, _ => rfl
theorem z_put (ci k : Nat) {T : u_T} {C : String} {N i t : Nat} {ref : String} {o v : Int} {ty : FieldType} (ty0 : Nat → FieldType) (hty0 : ∀ k, k < N → parseFieldDescriptor (T k).2.2.1 = some (ty0 k)) (hnm : ∀ a, a < N → ∀ b, b < N → a ≠ b → (T a).2.1 ≠ (T b).2.1) (hc : vwCl[ci]? = some (C, T, N)) (hci : ci < 13) (hN : nf ci = N) (hk : k < N) (hin : ∀ w ∈ u_ws C T N, w ∈ wsL_law) (hlink : Cond.fieldLink M.2.2.1 i ref (T k).2.1 (T k).2.2.1 ∈ wsL_law) (hsame : (T k).1 = ref)
    (hfin : (T k).2.2.2 = false) (hd9 : parseFieldDescriptor (T k).2.2.1 = some ty) (ht90 : t < 90) (hft : fT true ci k = t) (hty : (t = 0 ∧ ty = .int) ∨ (t = 1 ∧ ty = .long) ∨ (t = 2 ∧ ty = .boolean) ∨ (3 ≤ t ∧ ((∃ z, ty = .object z) ∨ ∃ z, ty = .array z)))
    (hd : decode M.1 pc = .ok (.putfield i, 3)) (kk : Wz p l e R s m args below meth c D G A H0 sg n0 M Q cells slots (pc + 3) lv st (hup h o k v)) : Wz p l e R s m args below meth c D G A H0 sg n0 M Q cells slots pc lv ((t, v) :: (10 + ci, o) :: st) h := by
  intro hC hh hn hlv hst H locs ls hw hS hls
  have ho : hT (nn h) (10 + ci) o := hst _ (List.mem_cons_of_mem _ List.mem_cons_self)
  have hv : hT (nn h) t v := hst _ List.mem_cons_self
  obtain ⟨h0, h1, h2⟩ := kOk (by omega) (by omega) ho
  have hx := hC.2.2.2.2.2.2.2.2.1
  have hnn := nn_hup (h := h) (j := (k : Int)) (v := v) h0
  rw [List.map_cons, List.map_cons, cv_refn G.1 (show 3 ≤ 10 + ci by omega) h0]
  refine va_put (D := D) (ci := ci) (fs := (List.range (nf ci)).map (fun j => cv G.1 (fT true ci j, h o j))) (C := C) (T := T) (N := N) hC.1 hC.2.1 hx hin ty0 hty0 hnm hC.2.2.2.1 hC.2.2.2.2.2.2.2.2.2.2.1 hw.1 hw.2 hS o.toNat (by rw [wld_get h0 h1, h2, cel_obj hci]) hc k hk (hx _ hlink) (fun _ h9 => by rw [← hsame]; exact h9) hfin hd9 (nar_ok hty hv).1 (nar_ok hty hv).2 (by simp; rw [hN]; exact hk) hd (fun H1 locs1 hP hD hS1 => ?_)
  have hcel : (G.1 o.toNat, Sum.inr (ci, ((List.range (nf ci)).map (fun j => cv G.1 (fT true ci j, h o j))).set k (cv G.1 (t, v)))) = ((G.1 o.toNat, cel G (kd o.toNat) (hup h o k v o)) : Nat × va_E) := by
    rw [← hft, fld_set (by rw [hN]; exact hk), h2, cel_obj hci]
  rw [hcel, wld_set h0 h1] at hP hD
  exact kk hC (hh.putF hci ho (hT_wk ht90 hft hv)) (by rw [hnn]; exact hn) (by rw [hnn]; exact hlv) (by rw [hnn]; exact fun q hq => hst q (List.mem_cons_of_mem _ (List.mem_cons_of_mem _ hq))) H1 locs1 ls ⟨hP, hD⟩ hS1 hls
theorem z_alen {t : Nat} {o : Int} (ht : 50 ≤ t) (ht2 : t < 56) (hd : decode M.1 pc = .ok (.arraylength, 1)) (kk : Wz p l e R s m args below meth c D G A H0 sg n0 M Q cells slots (pc + 1) lv ((0, h o (-1)) :: st) h) : Wz p l e R s m args below meth c D G A H0 sg n0 M Q cells slots pc lv ((t, o) :: st) h := by
  intro hC hh hn hlv hst H locs ls hw hS hls
  have ho : hT (nn h) t o := hst _ List.mem_cons_self
  obtain ⟨h0, h1, h2⟩ := kOk (by omega) (by omega) ho
  have hl := hh.len ht (by omega) ho
  have k2 := kk hC hh hn hlv (stc (v := (0, h o (-1))) ((R32_iff _).mpr (by omega)) (fun q hq => hst q (List.mem_cons_of_mem _ hq))) H locs ls hw hS hls
  rw [List.map_cons, cv_refn G.1 (by omega) h0]
  obtain ⟨ty, hty⟩ := ty_at (G := G) ht ht2
  obtain ⟨z, hz⟩ := cel_any (G := G) (f := h o) ht ht2
  refine va_alen (D := D) hC.1 hC.2.1 hC.2.2.2.2.2.2.2.2.2.2.1 hw.1 o.toNat (t - 50) (by rw [wld_get h0 h1, h2, hz]) hty ?_ hd k2
  dsimp only
  have hr9 : R32 (h o (-1)) := (R32_iff _).mpr (by omega)
  have e9 := ofNat_toNatClampNeg32 (Int32.ofInt (h o (-1))) (by rw [show (0 : Int32) = Int32.ofInt 0 from rfl, ofI_lt hr9 (by decide)]; omega)
  rw [Int32.toNatClampNeg, hr9.toI] at e9
  exact e9
theorem z_iald {o j v : Int} (hd : decode M.1 pc = .ok (.iaload, 1)) (hg : aget h o j = some v) (kk : Wz p l e R s m args below meth c D G A H0 sg n0 M Q cells slots (pc + 1) lv ((0, v) :: st) h) : Wz p l e R s m args below meth c D G A H0 sg n0 M Q cells slots pc lv ((0, j) :: (50, o) :: st) h := by
  obtain ⟨hj0, hj1, rfl⟩ := aget_some hg
  intro hC hh hn hlv hst H locs ls hw hS hls
  have ho : hT (nn h) 50 o := hst _ (List.mem_cons_of_mem _ List.mem_cons_self)
  have hj : R32 j := hst _ List.mem_cons_self
  obtain ⟨h0, h1, h2⟩ := kOk (by omega) (by omega) ho
  have hlen := hh.len (by omega) (by omega) ho
  have k2 := kk hC hh hn hlv (stc (v := (0, h o j)) (hlen.2.2 j hj0 hj1) (fun q hq => hst q (List.mem_cons_of_mem _ (List.mem_cons_of_mem _ hq)))) H locs ls hw hS hls
  obtain ⟨hin, hcl⟩ := rIn hj hj0 hj1
  rw [List.map_cons, List.map_cons, cv_refn G.1 (show 3 ≤ 50 by omega) h0]
  refine va_iald (D := D) (f := fun j => Int32.ofInt (h o (j : Nat))) (t0 := 0) hC.1 hC.2.1 hC.2.2.2.2.2.2.2.2.2.2.1 hw.1 o.toNat (by rw [wld_get h0 h1, h2, cel_arr (Or.inl rfl)]) rfl hin hd ?_
  rw [hcl]
  have ej : ((j.toNat : Nat) : Int) = j := Int.toNat_of_nonneg hj0
  simp only [ej]
  exact k2
theorem z_bald {o j v : Int} (hd : decode M.1 pc = .ok (.baload, 1)) (hg : aget h o j = some v) (kk : Wz p l e R s m args below meth c D G A H0 sg n0 M Q cells slots (pc + 1) lv ((0, v) :: st) h) : Wz p l e R s m args below meth c D G A H0 sg n0 M Q cells slots pc lv ((0, j) :: (52, o) :: st) h := by
  obtain ⟨hj0, hj1, rfl⟩ := aget_some hg
  intro hC hh hn hlv hst H locs ls hw hS hls
  have ho : hT (nn h) 52 o := hst _ (List.mem_cons_of_mem _ List.mem_cons_self)
  have hj : R32 j := hst _ List.mem_cons_self
  obtain ⟨h0, h1, h2⟩ := kOk (by omega) (by omega) ho
  have hlen := hh.len (by omega) (by omega) ho
  have k2 := kk hC hh hn hlv (stc (v := (0, h o j)) (hlen.2.2 j hj0 hj1) (fun q hq => hst q (List.mem_cons_of_mem _ (List.mem_cons_of_mem _ hq)))) H locs ls hw hS hls
  obtain ⟨hin, hcl⟩ := rIn hj hj0 hj1
  rw [List.map_cons, List.map_cons, cv_refn G.1 (show 3 ≤ 52 by omega) h0]
  refine va_bald (D := D) (f := fun j => Int32.ofInt (h o (j : Nat))) (t0 := 2) hC.1 hC.2.1 hC.2.2.2.2.2.2.2.2.2.2.1 hw.1 o.toNat (by rw [wld_get h0 h1, h2, cel_arr (Or.inr (Or.inl rfl))]) rfl hin hd ?_
  rw [hcl]
  have ej : ((j.toNat : Nat) : Int) = j := Int.toNat_of_nonneg hj0
  simp only [ej]
  exact k2
theorem z_zald {o j v : Int} (hd : decode M.1 pc = .ok (.baload, 1)) (hg : aget h o j = some v) (kk : Wz p l e R s m args below meth c D G A H0 sg n0 M Q cells slots (pc + 1) lv ((2, v) :: st) h) : Wz p l e R s m args below meth c D G A H0 sg n0 M Q cells slots pc lv ((0, j) :: (53, o) :: st) h := by
  obtain ⟨hj0, hj1, rfl⟩ := aget_some hg
  intro hC hh hn hlv hst H locs ls hw hS hls
  have ho : hT (nn h) 53 o := hst _ (List.mem_cons_of_mem _ List.mem_cons_self)
  have hj : R32 j := hst _ List.mem_cons_self
  obtain ⟨h0, h1, h2⟩ := kOk (by omega) (by omega) ho
  have hlen := hh.len (by omega) (by omega) ho
  have k2 := kk hC hh hn hlv (stc (v := (2, h o j)) (hlen.2.2 j hj0 hj1) (fun q hq => hst q (List.mem_cons_of_mem _ (List.mem_cons_of_mem _ hq)))) H locs ls hw hS hls
  obtain ⟨hin, hcl⟩ := rIn hj hj0 hj1
  rw [List.map_cons, List.map_cons, cv_refn G.1 (show 3 ≤ 53 by omega) h0]
  refine va_zald (D := D) (f := fun j => Int32.ofInt (h o (j : Nat))) (t0 := 3) hC.1 hC.2.1 hC.2.2.2.2.2.2.2.2.2.2.1 hw.1 o.toNat (by rw [wld_get h0 h1, h2, cel_arr (Or.inr (Or.inr rfl))]) rfl hin hd ?_
  rw [hcl]
  have ej : ((j.toNat : Nat) : Int) = j := Int.toNat_of_nonneg hj0
  simp only [ej]
  exact k2
theorem z_lald {o j v : Int} (hd : decode M.1 pc = .ok (.laload, 1)) (hg : aget h o j = some v) (kk : Wz p l e R s m args below meth c D G A H0 sg n0 M Q cells slots (pc + 1) lv ((1, v) :: st) h) : Wz p l e R s m args below meth c D G A H0 sg n0 M Q cells slots pc lv ((0, j) :: (51, o) :: st) h := by
  obtain ⟨hj0, hj1, rfl⟩ := aget_some hg
  intro hC hh hn hlv hst H locs ls hw hS hls
  have ho : hT (nn h) 51 o := hst _ (List.mem_cons_of_mem _ List.mem_cons_self)
  have hj : R32 j := hst _ List.mem_cons_self
  obtain ⟨h0, h1, h2⟩ := kOk (by omega) (by omega) ho
  have hlen := hh.len (by omega) (by omega) ho
  have k2 := kk hC hh hn hlv (stc (v := (1, h o j)) (hlen.2.2 j hj0 hj1) (fun q hq => hst q (List.mem_cons_of_mem _ (List.mem_cons_of_mem _ hq)))) H locs ls hw hS hls
  obtain ⟨hin, hcl⟩ := rIn hj hj0 hj1
  rw [List.map_cons, List.map_cons, cv_refn G.1 (show 3 ≤ 51 by omega) h0]
  refine va_lald (D := D) (f := fun j => Int64.ofInt (h o (j : Nat))) (t0 := 1) hC.1 hC.2.1 hC.2.2.2.2.2.2.2.2.2.2.1 hw.1 o.toNat (by rw [wld_get h0 h1, h2, cel_lon]) rfl hin hd ?_
  rw [hcl]
  have ej : ((j.toNat : Nat) : Int) = j := Int.toNat_of_nonneg hj0
  simp only [ej]
  exact k2
theorem z_rald {o j v : Int} (hd : decode M.1 pc = .ok (.aaload, 1)) (hg : aget h o j = some v) (kk : Wz p l e R s m args below meth c D G A H0 sg n0 M Q cells slots (pc + 1) lv ((118, v) :: st) h) : Wz p l e R s m args below meth c D G A H0 sg n0 M Q cells slots pc lv ((0, j) :: (54, o) :: st) h := by
  obtain ⟨hj0, hj1, rfl⟩ := aget_some hg
  intro hC hh hn hlv hst H locs ls hw hS hls
  have ho : hT (nn h) 54 o := hst _ (List.mem_cons_of_mem _ List.mem_cons_self)
  have hj : R32 j := hst _ List.mem_cons_self
  obtain ⟨h0, h1, h2⟩ := kOk (by omega) (by omega) ho
  have hlen := hh.len (by omega) (by omega) ho
  have k2 := kk hC hh hn hlv (stc (v := (118, h o j)) (hlen.2.2 j hj0 hj1) (fun q hq => hst q (List.mem_cons_of_mem _ (List.mem_cons_of_mem _ hq)))) H locs ls hw hS hls
  obtain ⟨hin, hcl⟩ := rIn hj hj0 hj1
  rw [List.map_cons, List.map_cons, cv_refn G.1 (show 3 ≤ 54 by omega) h0]
  refine va_aldq (D := D) (f := fun j => if h o (j : Nat) < 0 then none else some (G.1 (h o (j : Nat)).toNat)) (t0 := 4) hC.1 hC.2.1 hC.2.2.2.2.2.2.2.2.2.2.1 hw.1 o.toNat (by rw [wld_get h0 h1, h2, cel_row (Or.inl rfl)]) rfl hin hd ?_
  rw [hcl]
  have ej : ((j.toNat : Nat) : Int) = j := Int.toNat_of_nonneg hj0
  simp only [ej]
  rw [List.map_cons, show cv G.1 (118, h o j) = va_rf (if h o j < 0 then none else some (G.1 (h o j).toNat)) from by
    show cv G.1 (115 + 3, h o j) = _
    rw [cv_ge]
    split <;> rfl] at k2
  exact k2
theorem z_mald {o j v : Int} (hd : decode M.1 pc = .ok (.aaload, 1)) (hg : aget h o j = some v) (kk : Wz p l e R s m args below meth c D G A H0 sg n0 M Q cells slots (pc + 1) lv ((110, v) :: st) h) : Wz p l e R s m args below meth c D G A H0 sg n0 M Q cells slots pc lv ((0, j) :: (55, o) :: st) h := by
  obtain ⟨hj0, hj1, rfl⟩ := aget_some hg
  intro hC hh hn hlv hst H locs ls hw hS hls
  have ho : hT (nn h) 55 o := hst _ (List.mem_cons_of_mem _ List.mem_cons_self)
  have hj : R32 j := hst _ List.mem_cons_self
  obtain ⟨h0, h1, h2⟩ := kOk (by omega) (by omega) ho
  have hlen := hh.len (by omega) (by omega) ho
  have k2 := kk hC hh hn hlv (stc (v := (110, h o j)) (hlen.2.2 j hj0 hj1) (fun q hq => hst q (List.mem_cons_of_mem _ (List.mem_cons_of_mem _ hq)))) H locs ls hw hS hls
  obtain ⟨hin, hcl⟩ := rIn hj hj0 hj1
  rw [List.map_cons, List.map_cons, cv_refn G.1 (show 3 ≤ 55 by omega) h0]
  refine va_aldq (D := D) (f := fun j => if h o (j : Nat) < 0 then none else some (G.1 (h o (j : Nat)).toNat)) (t0 := 5) hC.1 hC.2.1 hC.2.2.2.2.2.2.2.2.2.2.1 hw.1 o.toNat (by rw [wld_get h0 h1, h2, cel_row (Or.inr rfl)]) rfl hin hd ?_
  rw [hcl]
  have ej : ((j.toNat : Nat) : Int) = j := Int.toNat_of_nonneg hj0
  simp only [ej]
  rw [List.map_cons, show cv G.1 (110, h o j) = va_rf (if h o j < 0 then none else some (G.1 (h o j).toNat)) from by
    show cv G.1 (107 + 3, h o j) = _
    rw [cv_ge]
    split <;> rfl] at k2
  exact k2
theorem z_iast {o j v : Int} {h1 : hH} (hd : decode M.1 pc = .ok (.iastore, 1)) (hg : aput h o j (v) = some h1) (kk : Wz p l e R s m args below meth c D G A H0 sg n0 M Q cells slots (pc + 1) lv st h1) : Wz p l e R s m args below meth c D G A H0 sg n0 M Q cells slots pc lv ((0, v) :: (0, j) :: (50, o) :: st) h := by
  obtain ⟨hj0, hj1, rfl⟩ := aput_some hg
  intro hC hh hn hlv hst H locs ls hw hS hls
  have ho : hT (nn h) 50 o := hst _ (List.mem_cons_of_mem _ (List.mem_cons_of_mem _ List.mem_cons_self))
  have hj : R32 j := hst _ (List.mem_cons_of_mem _ List.mem_cons_self)
  have hv : hT (nn h) 0 v := hst _ List.mem_cons_self
  obtain ⟨h0, h1, h2⟩ := kOk (by omega) (by omega) ho
  obtain ⟨hin, hcl⟩ := rIn hj hj0 hj1
  have hnn := nn_hup (h := h) (j := j) (v := v) h0
  have hlen9 : hup h o j (v) o (-1) = h o (-1) := by simp [hup]; omega
  rw [List.map_cons, List.map_cons, List.map_cons, cv_refn G.1 (show 3 ≤ 50 by omega) h0]
  refine va_iast (D := D) (f := fun j => Int32.ofInt (h o (j : Nat))) (t0 := 0) hC.1 hC.2.1 hC.2.2.2.2.2.2.2.2.2.2.1 hw.1 hw.2 hS o.toNat (by rw [wld_get h0 h1, h2, cel_arr (Or.inl rfl)]) rfl hin hd (fun H1 locs1 hP hD hS1 => ?_)
  have hcel : (G.1 o.toNat, Sum.inl (G.2 50, (h o (-1)).toNat, .inl (upd (fun j => Int32.ofInt (h o (j : Nat))) (Int32.ofInt j).toNatClampNeg (Int32.ofInt v)))) = ((G.1 o.toNat, cel G (kd o.toNat) (hup h o j (v) o)) : Nat × va_E) := by
    rw [h2, cel_arr (Or.inl rfl), hlen9, hcl]
    congr 5
    funext i
    simp only [upd, hup, true_and]
    by_cases hi : i = j.toNat
    · rw [if_pos hi, if_pos (by omega)]
    · rw [if_neg hi, if_neg (by omega)]
  rw [hcel, wld_set h0 h1] at hP hD
  exact kk hC (hh.putA (by omega) (by omega) ho hj0 hv) (by rw [hnn]; exact hn) (by rw [hnn]; exact hlv) (by rw [hnn]; exact (fun q hq => hst q (List.mem_cons_of_mem _ (List.mem_cons_of_mem _ (List.mem_cons_of_mem _ hq))))) H1 locs1 ls ⟨hP, hD⟩ hS1 hls
theorem z_bast {o j v : Int} {h1 : hH} (hd : decode M.1 pc = .ok (.bastore, 1)) (hg : aput h o j (i2bD v) = some h1) (kk : Wz p l e R s m args below meth c D G A H0 sg n0 M Q cells slots (pc + 1) lv st h1) : Wz p l e R s m args below meth c D G A H0 sg n0 M Q cells slots pc lv ((0, v) :: (0, j) :: (52, o) :: st) h := by
  obtain ⟨hj0, hj1, rfl⟩ := aput_some hg
  intro hC hh hn hlv hst H locs ls hw hS hls
  have ho : hT (nn h) 52 o := hst _ (List.mem_cons_of_mem _ (List.mem_cons_of_mem _ List.mem_cons_self))
  have hj : R32 j := hst _ (List.mem_cons_of_mem _ List.mem_cons_self)
  have hv : hT (nn h) 0 v := hst _ List.mem_cons_self
  obtain ⟨h0, h1, h2⟩ := kOk (by omega) (by omega) ho
  obtain ⟨hin, hcl⟩ := rIn hj hj0 hj1
  have hnn := nn_hup (h := h) (j := j) (v := i2bD v) h0
  have hlen9 : hup h o j (i2bD v) o (-1) = h o (-1) := by simp [hup]; omega
  rw [List.map_cons, List.map_cons, List.map_cons, cv_refn G.1 (show 3 ≤ 52 by omega) h0]
  refine va_bast (D := D) (f := fun j => Int32.ofInt (h o (j : Nat))) (t0 := 2) hC.1 hC.2.1 hC.2.2.2.2.2.2.2.2.2.2.1 hw.1 hw.2 hS o.toNat (by rw [wld_get h0 h1, h2, cel_arr (Or.inr (Or.inl rfl))]) rfl hin hd (fun H1 locs1 hP hD hS1 => ?_)
  have hcel : (G.1 o.toNat, Sum.inl (G.2 52, (h o (-1)).toNat, .inl (upd (fun j => Int32.ofInt (h o (j : Nat))) (Int32.ofInt j).toNatClampNeg (vp_nar .byte (Int32.ofInt v))))) = ((G.1 o.toNat, cel G (kd o.toNat) (hup h o j (i2bD v) o)) : Nat × va_E) := by
    rw [h2, cel_arr (Or.inr (Or.inl rfl)), hlen9, hcl]
    congr 5
    funext i
    simp only [upd, hup, true_and]
    by_cases hi : i = j.toNat
    · rw [if_pos hi, if_pos (by omega)]
      simp only [i2bD, w32_ofInt, Int32.ofInt_toInt]
      rfl
    · rw [if_neg hi, if_neg (by omega)]
  rw [hcel, wld_set h0 h1] at hP hD
  exact kk hC (hh.putA (by omega) (by omega) ho hj0 (R32_w _)) (by rw [hnn]; exact hn) (by rw [hnn]; exact hlv) (by rw [hnn]; exact (fun q hq => hst q (List.mem_cons_of_mem _ (List.mem_cons_of_mem _ (List.mem_cons_of_mem _ hq))))) H1 locs1 ls ⟨hP, hD⟩ hS1 hls
theorem z_zast {o j v : Int} {h1 : hH} (hd : decode M.1 pc = .ok (.bastore, 1)) (hg : aput h o j (v) = some h1) (kk : Wz p l e R s m args below meth c D G A H0 sg n0 M Q cells slots (pc + 1) lv st h1) : Wz p l e R s m args below meth c D G A H0 sg n0 M Q cells slots pc lv ((2, v) :: (0, j) :: (53, o) :: st) h := by
  obtain ⟨hj0, hj1, rfl⟩ := aput_some hg
  intro hC hh hn hlv hst H locs ls hw hS hls
  have ho : hT (nn h) 53 o := hst _ (List.mem_cons_of_mem _ (List.mem_cons_of_mem _ List.mem_cons_self))
  have hj : R32 j := hst _ (List.mem_cons_of_mem _ List.mem_cons_self)
  have hv : hT (nn h) 2 v := hst _ List.mem_cons_self
  obtain ⟨h0, h1, h2⟩ := kOk (by omega) (by omega) ho
  obtain ⟨hin, hcl⟩ := rIn hj hj0 hj1
  have hnn := nn_hup (h := h) (j := j) (v := v) h0
  have hlen9 : hup h o j (v) o (-1) = h o (-1) := by simp [hup]; omega
  rw [List.map_cons, List.map_cons, List.map_cons, cv_refn G.1 (show 3 ≤ 53 by omega) h0]
  refine va_zast (D := D) (f := fun j => Int32.ofInt (h o (j : Nat))) (t0 := 3) hC.1 hC.2.1 hC.2.2.2.2.2.2.2.2.2.2.1 hw.1 hw.2 hS o.toNat (by rw [wld_get h0 h1, h2, cel_arr (Or.inr (Or.inr rfl))]) rfl hin hd (fun H1 locs1 hP hD hS1 => ?_)
  have hcel : (G.1 o.toNat, Sum.inl (G.2 53, (h o (-1)).toNat, .inl (upd (fun j => Int32.ofInt (h o (j : Nat))) (Int32.ofInt j).toNatClampNeg (vp_nar .boolean (Int32.ofInt v))))) = ((G.1 o.toNat, cel G (kd o.toNat) (hup h o j (v) o)) : Nat × va_E) := by
    rw [h2, cel_arr (Or.inr (Or.inr rfl)), hlen9, hcl]
    congr 5
    funext i
    simp only [upd, hup, true_and]
    by_cases hi : i = j.toNat
    · rw [if_pos hi, if_pos (by omega)]
      rcases hv with e9 | e9 <;> subst e9 <;> rfl
    · rw [if_neg hi, if_neg (by omega)]
  rw [hcel, wld_set h0 h1] at hP hD
  exact kk hC (hh.putA (by omega) (by omega) ho hj0 hv) (by rw [hnn]; exact hn) (by rw [hnn]; exact hlv) (by rw [hnn]; exact (fun q hq => hst q (List.mem_cons_of_mem _ (List.mem_cons_of_mem _ (List.mem_cons_of_mem _ hq))))) H1 locs1 ls ⟨hP, hD⟩ hS1 hls
theorem z_last {o j v : Int} {h1 : hH} (hd : decode M.1 pc = .ok (.lastore, 1)) (hg : aput h o j (v) = some h1) (kk : Wz p l e R s m args below meth c D G A H0 sg n0 M Q cells slots (pc + 1) lv st h1) : Wz p l e R s m args below meth c D G A H0 sg n0 M Q cells slots pc lv ((1, v) :: (0, j) :: (51, o) :: st) h := by
  obtain ⟨hj0, hj1, rfl⟩ := aput_some hg
  intro hC hh hn hlv hst H locs ls hw hS hls
  have ho : hT (nn h) 51 o := hst _ (List.mem_cons_of_mem _ (List.mem_cons_of_mem _ List.mem_cons_self))
  have hj : R32 j := hst _ (List.mem_cons_of_mem _ List.mem_cons_self)
  have hv : hT (nn h) 1 v := hst _ List.mem_cons_self
  obtain ⟨h0, h1, h2⟩ := kOk (by omega) (by omega) ho
  obtain ⟨hin, hcl⟩ := rIn hj hj0 hj1
  have hnn := nn_hup (h := h) (j := j) (v := v) h0
  have hlen9 : hup h o j (v) o (-1) = h o (-1) := by simp [hup]; omega
  rw [List.map_cons, List.map_cons, List.map_cons, cv_refn G.1 (show 3 ≤ 51 by omega) h0]
  refine va_last (D := D) (f := fun j => Int64.ofInt (h o (j : Nat))) (t0 := 1) hC.1 hC.2.1 hC.2.2.2.2.2.2.2.2.2.2.1 hw.1 hw.2 hS o.toNat (by rw [wld_get h0 h1, h2, cel_lon]) rfl hin hd (fun H1 locs1 hP hD hS1 => ?_)
  have hcel : (G.1 o.toNat, Sum.inl (G.2 51, (h o (-1)).toNat, .inr (.inl (vp_updL (fun j => Int64.ofInt (h o (j : Nat))) (Int32.ofInt j).toNatClampNeg (Int64.ofInt v))))) = ((G.1 o.toNat, cel G (kd o.toNat) (hup h o j (v) o)) : Nat × va_E) := by
    rw [h2, cel_lon, hlen9, hcl]
    congr 6
    funext i
    simp only [vp_updL, hup, true_and]
    by_cases hi : i = j.toNat
    · rw [if_pos hi, if_pos (by omega)]
    · rw [if_neg hi, if_neg (by omega)]
  rw [hcel, wld_set h0 h1] at hP hD
  exact kk hC (hh.putA (by omega) (by omega) ho hj0 hv) (by rw [hnn]; exact hn) (by rw [hnn]; exact hlv) (by rw [hnn]; exact (fun q hq => hst q (List.mem_cons_of_mem _ (List.mem_cons_of_mem _ (List.mem_cons_of_mem _ hq))))) H1 locs1 ls ⟨hP, hD⟩ hS1 hls
theorem zcall_go {My : mM} {X : Option vV × hH} {as rest : List vV} {H : Heap} {locs : List Loc} {ls : Array Slot} {av : Array Value} (hC : cxOk p R s m args meth c D G A H0 M) (hlv : ∀ q ∈ lv, hT (nn h) q.2.1 q.2.2) (hst : ∀ q ∈ rest, hT (nn h) q.1 q.2) (hn : n0 ≤ nn h) (hw : wOk D G A h H) (hS : va_S A H0 H locs) (hls : lv_has ls M.2.1 (lv.map (fun q => (q.1, cv G.1 q.2))))
    (hr : va_Run p l e R s m args below meth c H locs cells slots My.2.2.2.2.2.2.2.1 My.2.2.2.2.2.2.2.2 (F0 m pc ls (st.map (cv G.1))) (rest.map (cv G.1)) (qX D G (va_A (wld G h) H.size) sg (nn h) X av) (va_A (wld G h) H.size))
    (kk : Wz p l e R s m args below meth c D G A H0 sg n0 M Q (cells + My.2.2.2.2.2.2.2.1) (slots + My.2.2.2.2.2.2.2.2) (pc + 3) lv (X.1.toList ++ rest) X.2) :
    W p l e R s m args below meth c H locs cells slots Q (F0 m pc ls (st.map (cv G.1))) := by
  have hA := hC.2.2.2.2.2.2.2.2.2.2.2.1
  have hAA : ∀ q, va_A (wld G h) H.size q → A q := by
    intro q hq
    rcases hq with ⟨k, e, hk⟩ | hk
    · exact hw.2.2 k (q, e) hk
    · exact hA q (Nat.le_trans hS.1 hk)
  intro T9 hT9 X9
  obtain ⟨v, st₀, t, T', L, h0, X', hL, e1, e2, ⟨⟨ho, hwt, hht, hnt, hz9⟩, hz, hk⟩, stp⟩ := hr T9 hT9 X9
  rw [h0] at hz hk
  have hv : v = X.1.map (cv G.1) := by injection ho
  subst hv
  have hmono : ∀ {T : Nat} {y : Int}, hT (nn h) T y → hT (nn X.2) T y := by
    intro T y hy
    match T, hy with
    | 0, hy => exact hy
    | 1, hy => exact hy
    | 2, hy => exact hy
    | T + 3, hy =>
      rcases hT_ref (by omega) hy with z | z | z
      · exact Or.inl z
      · exact Or.inr (Or.inl ⟨z.1, by omega, z.2.2⟩)
      · exact Or.inr (Or.inr z)
  have k2 := kk hC hht (by omega) (fun q hq => hmono (hlv q hq)) (fun q hq => by
    rcases List.mem_append.mp hq with z | z
    · exact hz9 q (Option.mem_toList.mp z)
    · exact hmono (hst q z)) T'.heap (locs ++ L) ls ⟨by rw [e1]; exact hwt.1, hwt.2.weaken (fun _ _ _ z => hAA _ z)⟩
    ⟨Nat.le_trans hS.1 (by rw [e1]; exact hz), fun q h1 h2 => by rw [e1, hk q (Nat.lt_of_lt_of_le h1 hS.1) (fun z => h2 (hAA q z))]; exact hS.2.1 q h1 h2, fun q hq => by
      rcases List.mem_append.mp hq with z | z
      · exact hS.2.2 q z
      · exact hAA _ (hL q z)⟩ hls
  obtain ⟨t2, a1, b1⟩ := k2 T' rfl X'
  refine ⟨t2, stp t2 ?_, b1⟩
  have hstk : (X.1.toList ++ rest).map (cv G.1) = (X.1.map (cv G.1)).toList ++ rest.map (cv G.1) := by
    cases X.1 <;> rfl
  rw [hstk] at a1
  exact a1
theorem z_callV {ci i n N : Nat} {y : MethodName} {My : mM} {o : Int} {as rest : List vV} {X : Option vV × hH} {T : u_T} (hM : Ctr l D G sg y My ((10 + ci, o) :: as) h X) (hci : ci < 13) (hcl : vwCl[ci]? = some (y.cls, T, N))
    (w1 : Cond.methodLink M.2.2.1 i y ∈ wsL_law) (w2 : Cond.instanceMethod y ∈ wsL_law) (w3 : Cond.selects y.cls y y ∈ wsL_law) (w4 : Cond.initialized y.cls ∈ wsL_law) (w5 : Cond.code y My.1 My.2.1 My.2.2.2.1 ∈ wsL_law)
    (hd9 : y.cls ≠ "java/lang/invoke/MethodHandle" ∧ y.cls ≠ "java/lang/invoke/VarHandle" ∧ (parseMethodDescriptor y.desc).map (fun d => d.parameters.length) = some as.length)
    (hR : My.2.2.2.2.2.1 + 1 ≤ M.2.2.2.2.2.1 ∧ 8 + (My.2.1 + 11) + My.2.2.2.2.2.2.1 ≤ M.2.2.2.2.2.2.1) (hcs : cells + My.2.2.2.2.2.2.2.1 ≤ M.2.2.2.2.2.2.2.1 ∧ slots + My.2.2.2.2.2.2.2.2 ≤ M.2.2.2.2.2.2.2.2) (h8 : szA rest ≤ 8)
    (hd : decode M.1 pc = .ok (.invokevirtual i, 3)) (hrev : as.reverse ++ (10 + ci, o) :: rest = st)
    (kk : Wz p l e R s m args below meth c D G A H0 sg n0 M Q (cells + My.2.2.2.2.2.2.2.1) (slots + My.2.2.2.2.2.2.2.2) (pc + 3) lv (X.1.toList ++ rest) X.2) : Wz p l e R s m args below meth c D G A H0 sg n0 M Q cells slots pc lv st h := by
  subst hrev
  intro hC hh hn hlv hst H locs ls hw hS hls
  have hts := hC.2.2.2.2.2.2.2.2.1
  have hRR := hC.2.2.2.2.2.2.1
  have hK := hC.2.2.2.2.2.2.2.2.2.2.1
  have ho : hT (nn h) (10 + ci) o := hst (10 + ci, o) (List.mem_append_right _ List.mem_cons_self)
  obtain ⟨h0, h1, h2⟩ := kOk (by omega) (by omega) ho
  have hcell : (wld G h)[o.toNat]? = some (G.1 o.toNat, .inr (ci, (List.range (nf ci)).map (fun j => cv G.1 (fT true ci j, h o j)))) := by rw [wld_get h0 h1, h2, cel_obj hci]
  have hM9 := hM hh (fun v hv => by
    rcases List.mem_cons.mp hv with e9 | hv
    · rw [e9]; exact ho
    · exact hst v (List.mem_append_left _ (List.mem_reverse.mpr hv))) H.size
  refine zcall_go (av := (Value.ref (G.1 o.toNat) :: as.map (cv G.1)).toArray) (as := as) (rest := rest) hC hlv (fun q hq => hst q (List.mem_append_right _ (List.mem_cons_of_mem _ hq))) hn hw hS hls ?_ kk
  refine va_runV (y := y) (C := y.cls) (own := M.2.2.1) (index := i) (bytes := My.1) (maxL := My.2.1) (ret := My.2.2.2.1) (ws := wsM y My) (rm := rmM My) (Ts := wsL_law) (cc := M.1) (nL := M.2.1) (n := as.length) (b := G.1 o.toNat) (As := as.map (cv G.1)) ⟨hC.1, hC.2.1, hC.2.2.1, hC.2.2.2.1, hts⟩ hM9
    ⟨callB_of as.length hts (goodM w5) rfl rfl rfl (hts _ w4) (hts _ w1) hd9 (by rw [hRR]; exact hR), hts _ w2, hts _ w3⟩
    ⟨pc_blind, va_recv hK hw.1 hcl hcell, fun U hU hW => ⟨?_, by rw [hU], by rw [hU]; exact hw.1, va_K.moved hW.alike hK, hw.2.weaken (fun _ _ _ _ => trivial), hC.2.2.2.2.2.2.2.2.2.1.warm hW, by rw [hU]; exact (hC.2.2.2.2.2.2.2.2.2.2.2.2.1 ▸ hC.2.2.2.2.2.2.2.2.2.2.2.2.2.2 : skOk G s H0).go hC.2.2.2.2.2.2.2.2.2.2.2.2.2.1 hS hW⟩⟩ rfl (by simp) hls.1 ?_ (lv_room (by rw [cat_sum]; exact h8)) hd (by rw [hRR]; exact hcs)
  · rw [List.map_cons, cv_refn G.1 (by omega) h0]
  · show (as.reverse ++ (10 + ci, o) :: rest).map (cv G.1) = _
    rw [List.map_append, List.map_reverse, List.map_cons, cv_refn G.1 (by omega) h0]
theorem z_callS {i : Nat} {y : MethodName} {My : mM} {as rest : List vV} {X : Option vV × hH} (hM : Ctr l D G sg y My as h X)
    (w1 : Cond.methodLink M.2.2.1 i y ∈ wsL_law) (w2 : Cond.static y ∈ wsL_law) (w4 : Cond.initialized y.cls ∈ wsL_law) (w5 : Cond.code y My.1 My.2.1 My.2.2.2.1 ∈ wsL_law)
    (hd9 : y.cls ≠ "java/lang/invoke/MethodHandle" ∧ y.cls ≠ "java/lang/invoke/VarHandle" ∧ (parseMethodDescriptor y.desc).map (fun d => d.parameters.length) = some as.length)
    (hR : My.2.2.2.2.2.1 + 1 ≤ M.2.2.2.2.2.1 ∧ 8 + (My.2.1 + 11) + My.2.2.2.2.2.2.1 ≤ M.2.2.2.2.2.2.1) (hcs : cells + My.2.2.2.2.2.2.2.1 ≤ M.2.2.2.2.2.2.2.1 ∧ slots + My.2.2.2.2.2.2.2.2 ≤ M.2.2.2.2.2.2.2.2) (h8 : szA rest ≤ 8)
    (hd : decode M.1 pc = .ok (.invokestatic i, 3)) (hrev : as.reverse ++ rest = st)
    (kk : Wz p l e R s m args below meth c D G A H0 sg n0 M Q (cells + My.2.2.2.2.2.2.2.1) (slots + My.2.2.2.2.2.2.2.2) (pc + 3) lv (X.1.toList ++ rest) X.2) : Wz p l e R s m args below meth c D G A H0 sg n0 M Q cells slots pc lv st h := by
  subst hrev
  intro hC hh hn hlv hst H locs ls hw hS hls
  have hts := hC.2.2.2.2.2.2.2.2.1
  have hRR := hC.2.2.2.2.2.2.1
  have hK := hC.2.2.2.2.2.2.2.2.2.2.1
  have hM9 := hM hh (fun v hv => hst v (List.mem_append_left _ (List.mem_reverse.mpr hv))) H.size
  refine zcall_go (av := (as.map (cv G.1)).toArray) (as := as) (rest := rest) hC hlv (fun q hq => hst q (List.mem_append_right _ hq)) hn hw hS hls ?_ kk
  exact va_runS (y := y) (own := M.2.2.1) (index := i) (bytes := My.1) (maxL := My.2.1) (ret := My.2.2.2.1) (ws := wsM y My) (rm := rmM My) (Ts := wsL_law) (cc := M.1) (nL := M.2.1) (n := as.length) (As := as.map (cv G.1)) ⟨hC.1, hC.2.1, hC.2.2.1, hC.2.2.2.1, hts⟩ hM9
    ⟨callB_of as.length hts (goodM w5) rfl rfl rfl (hts _ w4) (hts _ w1) hd9 (by rw [hRR]; exact hR), hts _ w2⟩
    ⟨pc_blind, fun U hU hW => ⟨rfl, by rw [hU], by rw [hU]; exact hw.1, va_K.moved hW.alike hK, hw.2.weaken (fun _ _ _ _ => trivial), hC.2.2.2.2.2.2.2.2.2.1.warm hW, by rw [hU]; exact (hC.2.2.2.2.2.2.2.2.2.2.2.2.1 ▸ hC.2.2.2.2.2.2.2.2.2.2.2.2.2.2 : skOk G s H0).go hC.2.2.2.2.2.2.2.2.2.2.2.2.2.1 hS hW⟩⟩ rfl (by simp) hls.1 (by simp [F0, List.map_append, List.map_reverse]) (lv_room (by rw [cat_sum]; exact h8)) hd (by rw [hRR]; exact hcs)
theorem z_callSN {i : Nat} {y : MethodName} {My : mM} {as rest : List vV} {X : Option vV × hH} {host : String} (hM : Ctr l D G sg y My as h X)
    (w1 : (M.2.2.1, i, y, host) ∈ nestL) (w2 : Cond.static y ∈ wsL_law) (w4 : Cond.initialized y.cls ∈ wsL_law) (w5 : Cond.code y My.1 My.2.1 My.2.2.2.1 ∈ wsL_law)
    (hd9 : y.cls ≠ "java/lang/invoke/MethodHandle" ∧ y.cls ≠ "java/lang/invoke/VarHandle" ∧ (parseMethodDescriptor y.desc).map (fun d => d.parameters.length) = some as.length)
    (hR : My.2.2.2.2.2.1 + 1 ≤ M.2.2.2.2.2.1 ∧ 8 + (My.2.1 + 11) + My.2.2.2.2.2.2.1 ≤ M.2.2.2.2.2.2.1) (hcs : cells + My.2.2.2.2.2.2.2.1 ≤ M.2.2.2.2.2.2.2.1 ∧ slots + My.2.2.2.2.2.2.2.2 ≤ M.2.2.2.2.2.2.2.2) (h8 : szA rest ≤ 8)
    (hd : decode M.1 pc = .ok (.invokestatic i, 3)) (hrev : as.reverse ++ rest = st)
    (kk : Wz p l e R s m args below meth c D G A H0 sg n0 M Q (cells + My.2.2.2.2.2.2.2.1) (slots + My.2.2.2.2.2.2.2.2) (pc + 3) lv (X.1.toList ++ rest) X.2) : Wz p l e R s m args below meth c D G A H0 sg n0 M Q cells slots pc lv st h := by
  subst hrev
  intro hC hh hn hlv hst H locs ls hw hS hls
  have hts := hC.2.2.2.2.2.2.2.2.1
  have hRR := hC.2.2.2.2.2.2.1
  have hK := hC.2.2.2.2.2.2.2.2.2.2.1
  have hns := hC.2.2.2.2.2.2.2.2.2.1
  have hM9 := hM hh (fun v hv => hst v (List.mem_append_left _ (List.mem_reverse.mpr hv))) H.size
  refine zcall_go (av := (as.map (cv G.1)).toArray) (as := as) (rest := rest) hC hlv (fun q hq => hst q (List.mem_append_right _ hq)) hn hw hS hls ?_ kk
  exact va_runSN (y := y) (own := M.2.2.1) (host := host) (index := i) (bytes := My.1) (maxL := My.2.1) (ret := My.2.2.2.1) (ws := wsM y My) (rm := rmM My) (Ts := wsL_law) (cc := M.1) (nL := M.2.1) (n := as.length) (As := as.map (cv G.1)) ⟨hC.1, hC.2.1, hC.2.2.1, hC.2.2.2.1, hts⟩ hM9
    ⟨va_cnB as.length hts (goodM w5) rfl rfl rfl (hns _ w1) (hts _ w4) hd9 (by rw [hRR]; exact hR), hts _ w2, trivial⟩
    ⟨pc_blind, fun U hU hW => ⟨rfl, by rw [hU], by rw [hU]; exact hw.1, va_K.moved hW.alike hK, hw.2.weaken (fun _ _ _ _ => trivial), hC.2.2.2.2.2.2.2.2.2.1.warm hW, by rw [hU]; exact (hC.2.2.2.2.2.2.2.2.2.2.2.2.1 ▸ hC.2.2.2.2.2.2.2.2.2.2.2.2.2.2 : skOk G s H0).go hC.2.2.2.2.2.2.2.2.2.2.2.2.2.1 hS hW⟩⟩ rfl (by simp) hls.1 (by simp [F0, List.map_append, List.map_reverse]) (lv_room (by rw [cat_sum]; exact h8)) hd (by rw [hRR]; exact hcs)
theorem z_put' (ci k : Nat) {T : u_T} {C : String} {N i t : Nat} {ref : String} {o k' v : Int} {ty : FieldType} {h1 : hH} (he : pput h o k' v = some h1) (hk' : k' = (k : Int)) (ty0 : Nat → FieldType) (hty0 : ∀ k, k < N → parseFieldDescriptor (T k).2.2.1 = some (ty0 k)) (hnm : ∀ a, a < N → ∀ b, b < N → a ≠ b → (T a).2.1 ≠ (T b).2.1) (hc : vwCl[ci]? = some (C, T, N)) (hci : ci < 13) (hN : nf ci = N) (hk : k < N) (hin : ∀ w ∈ u_ws C T N, w ∈ wsL_law) (hlink : Cond.fieldLink M.2.2.1 i ref (T k).2.1 (T k).2.2.1 ∈ wsL_law) (hsame : (T k).1 = ref)
    (hfin : (T k).2.2.2 = false) (hd9 : parseFieldDescriptor (T k).2.2.1 = some ty) (ht90 : t < 90) (hft : fT true ci k = t) (hty : (t = 0 ∧ ty = .int) ∨ (t = 1 ∧ ty = .long) ∨ (t = 2 ∧ ty = .boolean) ∨ (3 ≤ t ∧ ((∃ z, ty = .object z) ∨ ∃ z, ty = .array z)))
    (hd : decode M.1 pc = .ok (.putfield i, 3)) (kk : Wz p l e R s m args below meth c D G A H0 sg n0 M Q cells slots (pc + 3) lv st h1) : Wz p l e R s m args below meth c D G A H0 sg n0 M Q cells slots pc lv ((t, v) :: (10 + ci, o) :: st) h := by
  have e1 := Option.some.inj he
  subst e1
  subst hk'
  exact z_put ci k ty0 hty0 hnm hc hci hN hk hin hlink hsame hfin hd9 ht90 hft hty hd kk
theorem z_scast (n : Nat) {v w : vV} {st' : List vV} (hj : st[n]? = some v) (hv : ∀ ad, cv ad v = cv ad w) (hTT : hT (nn h) v.1 v.2 → hT (nn h) w.1 w.2) (hl : st.set n w = st') (kk : Wz p l e R s m args below meth c D G A H0 sg n0 M Q cells slots pc lv st' h) : Wz p l e R s m args below meth c D G A H0 sg n0 M Q cells slots pc lv st h := by
  subst hl
  intro hC hh hn hlv hst H locs ls hw hS hls
  have hn9 := (List.getElem?_eq_some_iff.mp hj).1
  have k2 := kk hC hh hn hlv (fun q hq => by
    rcases List.mem_or_eq_of_mem_set hq with z | z
    · exact hst q z
    · rw [z]; exact hTT (hst v (List.mem_of_getElem? hj))) H locs ls hw hS hls
  rw [List.map_set] at k2
  have e9 : (st.map (cv G.1)).set n (cv G.1 w) = st.map (cv G.1) := by
    apply List.ext_getElem?
    intro i
    by_cases hi : i = n
    · subst hi
      rw [List.getElem?_set_self (by rw [List.length_map]; exact hn9), List.getElem?_map, hj, Option.map_some, hv]
    · rw [List.getElem?_set_ne (Ne.symm hi)]
  rw [e9] at k2
  exact k2
theorem z_lcast (n : Nat) {i : Nat} {v w : vV} {lv' : List (Nat × vV)} (hj : lv[n]? = some (i, v)) (hv : ∀ ad, cv ad v = cv ad w) (hTT : hT (nn h) v.1 v.2 → hT (nn h) w.1 w.2) (hl : lv.set n (i, w) = lv') (kk : Wz p l e R s m args below meth c D G A H0 sg n0 M Q cells slots pc lv' st h) : Wz p l e R s m args below meth c D G A H0 sg n0 M Q cells slots pc lv st h := by
  subst hl
  intro hC hh hn hlv hst H locs ls hw hS hls
  have hn9 := (List.getElem?_eq_some_iff.mp hj).1
  refine kk hC hh hn (fun q hq => by
    rcases List.mem_or_eq_of_mem_set hq with z | z
    · exact hlv q z
    · rw [z]; exact hTT (hlv _ (List.mem_of_getElem? hj))) hst H locs ls hw hS ?_
  have e9 : (lv.set n (i, w)).map (fun q => (q.1, cv G.1 q.2)) = lv.map (fun q => (q.1, cv G.1 q.2)) := by
    rw [List.map_set]
    apply List.ext_getElem?
    intro j
    by_cases hi : j = n
    · subst hi
      rw [List.getElem?_set_self (by rw [List.length_map]; exact hn9), List.getElem?_map, hj, Option.map_some, hv]
    · rw [List.getElem?_set_ne (Ne.symm hi)]
  rw [e9]
  exact hls
theorem z_ldc' {i : Nat} {v : Int} {z : Int32} (hd : decode M.1 pc = .ok (.ldc i, 2)) (hz : Int32.ofInt v = z ∧ R32 v) (hw : Cond.constant M.2.2.1 i z ∈ wsL_law) (kk : Wz p l e R s m args below meth c D G A H0 sg n0 M Q cells slots (pc + 2) lv ((0, v) :: st) h) : Wz p l e R s m args below meth c D G A H0 sg n0 M Q cells slots pc lv st h :=
  z_ldc hd hz.2 (by rw [hz.1]; exact hw) kk
theorem z_ldc2' {i : Nat} {v : Int} {z : Int64} (hd : decode M.1 pc = .ok (.ldc2_w i, 3)) (hz : Int64.ofInt v = z ∧ R64 v) (hw : Cond.constantLong M.2.2.1 i z ∈ wsL_law) (kk : Wz p l e R s m args below meth c D G A H0 sg n0 M Q cells slots (pc + 3) lv ((1, v) :: st) h) : Wz p l e R s m args below meth c D G A H0 sg n0 M Q cells slots pc lv st h :=
  z_ldc2 hd hz.2 (by rw [hz.1]; exact hw) kk
theorem z_idiv' {a b : Int} {z : Int} (hd : decode M.1 pc = .ok (.idiv, 1)) (hg : gdz b = some z) (kk : Wz p l e R s m args below meth c D G A H0 sg n0 M Q cells slots (pc + 1) lv ((0, idvD a b) :: st) h) : Wz p l e R s m args below meth c D G A H0 sg n0 M Q cells slots pc lv ((0, b) :: (0, a) :: st) h :=
  z_idiv hd (fun z9 => by rw [z9] at hg; cases hg) kk
theorem z_irem' {a b : Int} {z : Int} (hd : decode M.1 pc = .ok (.irem, 1)) (hg : gdz b = some z) (kk : Wz p l e R s m args below meth c D G A H0 sg n0 M Q cells slots (pc + 1) lv ((0, irmD a b) :: st) h) : Wz p l e R s m args below meth c D G A H0 sg n0 M Q cells slots pc lv ((0, b) :: (0, a) :: st) h :=
  z_irem hd (fun z9 => by rw [z9] at hg; cases hg) kk
theorem z_ldcS (hd : decode M.1 pc = .ok (.ldc 88, 2)) (ho : M.2.2.1 = RX9) (kk : Wz p l e R s m args below meth c D G A H0 sg n0 M Q cells slots (pc + 2) lv ((90, 1000) :: st) h) : Wz p l e R s m args below meth c D G A H0 sg n0 M Q cells slots pc lv st h := by
  intro hC hh hn hlv hst H locs ls hw hS hls
  have hown := hC.2.2.2.1
  rw [ho] at hown
  exact va_ldcS hC.1 hC.2.1 hown (sk_in hC).1 hd (kk hC hh hn hlv (stc (v := (90, 1000)) hT90 hst) H locs ls hw hS hls)
theorem z_getSv {i : Nat} {o : Int} (hd : decode M.1 pc = .ok (.getfield i, 3)) (w1 : Cond.fieldLink M.2.2.1 i "java/lang/String" "value" "[B" ∈ wsL_law) (kk : Wz p l e R s m args below meth c D G A H0 sg n0 M Q cells slots (pc + 3) lv ((91, 1001) :: st) h) : Wz p l e R s m args below meth c D G A H0 sg n0 M Q cells slots pc lv ((90, o) :: st) h := by
  intro hC hh hn hlv hst H locs ls hw hS hls
  have ho := h90 (hst _ List.mem_cons_self)
  dsimp only at ho
  subst ho
  exact vk_getf hC.1 hC.2.1 ((sk_in hC).2.1.1 0 (by decide)).2.2.1 (sk_S hC hS) hC.2.2.2.1 (hC.2.2.2.2.2.2.2.2.1 _ w1) (fun _ h9 => h9) hd (kk hC hh hn hlv (stc (v := (91, 1001)) hT91 (fun q hq => hst q (List.mem_cons_of_mem _ hq))) H locs ls hw hS hls)
theorem z_getSc {i : Nat} {o : Int} (hd : decode M.1 pc = .ok (.getfield i, 3)) (w1 : Cond.fieldLink M.2.2.1 i "java/lang/String" "coder" "B" ∈ wsL_law) (kk : Wz p l e R s m args below meth c D G A H0 sg n0 M Q cells slots (pc + 3) lv ((0, 0) :: st) h) : Wz p l e R s m args below meth c D G A H0 sg n0 M Q cells slots pc lv ((90, o) :: st) h := by
  intro hC hh hn hlv hst H locs ls hw hS hls
  have ho := h90 (hst _ List.mem_cons_self)
  dsimp only at ho
  subst ho
  exact vk_getf hC.1 hC.2.1 ((sk_in hC).2.1.1 0 (by decide)).2.1 (sk_S hC hS) hC.2.2.2.1 (hC.2.2.2.2.2.2.2.2.1 _ w1) (fun _ h9 => h9) hd (kk hC hh hn hlv (stc (v := (0, 0)) (by show R32 0; decide) (fun q hq => hst q (List.mem_cons_of_mem _ hq))) H locs ls hw hS hls)
theorem z_alenS {o : Int} (hd : decode M.1 pc = .ok (.arraylength, 1)) (kk : Wz p l e R s m args below meth c D G A H0 sg n0 M Q cells slots (pc + 1) lv ((0, 152) :: st) h) : Wz p l e R s m args below meth c D G A H0 sg n0 M Q cells slots pc lv ((91, o) :: st) h := by
  intro hC hh hn hlv hst H locs ls hw hS hls
  have ho := h91 (hst _ List.mem_cons_self)
  dsimp only at ho
  subst ho
  exact va_tlen hC.1 hC.2.1 ((sk_in hC).2.1.1 0 (by decide)).2.2.2 (sk_S hC hS) rfl hd (kk hC hh hn hlv (stc (v := (0, 152)) (by show R32 152; decide) (fun q hq => hst q (List.mem_cons_of_mem _ hq))) H locs ls hw hS hls)
theorem z_baldS {j v o : Int} (hd : decode M.1 pc = .ok (.baload, 1)) (hg : sget j = some v) (kk : Wz p l e R s m args below meth c D G A H0 sg n0 M Q cells slots (pc + 1) lv ((0, v) :: st) h) : Wz p l e R s m args below meth c D G A H0 sg n0 M Q cells slots pc lv ((0, j) :: (91, o) :: st) h := by
  intro hC hh hn hlv hst H locs ls hw hS hls
  have ho := h91 (hst _ (List.mem_cons_of_mem _ List.mem_cons_self))
  dsimp only at ho
  subst ho
  obtain ⟨hj0, hj1, hv⟩ := sget_some hg
  have hj : R32 j := hst _ List.mem_cons_self
  obtain ⟨hin, hcl⟩ := rIn hj hj0 hj1
  refine va_tb hC.1 hC.2.1 ((sk_in hC).2.1.1 0 (by decide)).2.2.2 (sk_S hC hS) hin (v := cv G.1 (0, v)) ?_ hd (kk hC hh hn hlv (stc (v := (0, v)) (sget_ok hg).1 (fun q hq => hst q (List.mem_cons_of_mem _ (List.mem_cons_of_mem _ hq)))) H locs ls hw hS hls)
  rw [hcl, hv]
  show Value.int _ = Value.int (Int32.ofInt _)
  rw [Int32.ofInt_toInt]
  rfl
theorem z_gstC {i : Nat} (hd : decode M.1 pc = .ok (.getstatic i, 3)) (w1 : Cond.fieldLink M.2.2.1 i "java/lang/String" "COMPACT_STRINGS" "Z" ∈ wsL_law) (kk : Wz p l e R s m args below meth c D G A H0 sg n0 M Q cells slots (pc + 3) lv ((0, 1) :: st) h) : Wz p l e R s m args below meth c D G A H0 sg n0 M Q cells slots pc lv st h := by
  intro hC hh hn hlv hst H locs ls hw hS hls
  exact va_gets hC.1 hC.2.1 (sk_in hC).2.2.1 (sk_S hC hS) hC.2.2.2.1 (hC.2.2.2.2.2.2.2.2.1 _ w1) (fun _ h9 => h9) hd (kk hC hh hn hlv (stc (v := (0, 1)) (by show R32 1; decide) hst) H locs ls hw hS hls)
theorem z_i2c {a : Int} (hd : decode M.1 pc = .ok (.i2c, 1)) (kk : Wz p l e R s m args below meth c D G A H0 sg n0 M Q cells slots (pc + 1) lv ((0, i2cD a) :: st) h) : Wz p l e R s m args below meth c D G A H0 sg n0 M Q cells slots pc lv ((0, a) :: st) h := by
  intro hC hh hn hlv hst H locs ls hw hS hls
  have k2 := kk hC hh hn hlv (stc (v := (0, i2cD a)) (R32_w _) (fun q hq => hst q (List.mem_cons_of_mem _ hq))) H locs ls hw hS hls
  rw [List.map_cons, show cv G.1 (0, i2cD a) = .int ((Int32.ofInt a).toUInt32 % 65536).toInt32 from by simp only [cv, i2cD, w32_ofInt, Int32.ofInt_toInt]] at k2
  exact lv_i2c hC.1 hC.2.1 hd rfl k2
end ZR
