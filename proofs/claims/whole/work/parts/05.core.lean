def iadD (a b : Int) : Int := w32 (Int32.ofInt a &&& Int32.ofInt b).toInt
def iorD (a b : Int) : Int := w32 (Int32.ofInt a ||| Int32.ofInt b).toInt
def ixoD (a b : Int) : Int := w32 (Int32.ofInt a ^^^ Int32.ofInt b).toInt
def ishD (a b : Int) : Int := w32 (Int32.ofInt a <<< (Int32.ofInt b &&& 31)).toInt
def isrD (a b : Int) : Int := w32 (Int32.ofInt a >>> (Int32.ofInt b &&& 31)).toInt
def iusD (a b : Int) : Int := w32 (((Int32.ofInt a).toUInt32 >>> ((Int32.ofInt b).toUInt32 &&& Int32.toUInt32 31)).toInt32).toInt
def idvD (a b : Int) : Int := w32 (Int32.ofInt a / Int32.ofInt b).toInt
def irmD (a b : Int) : Int := w32 (Int32.ofInt a - Int32.ofInt a / Int32.ofInt b * Int32.ofInt b).toInt
def i2bD (a : Int) : Int := w32 ((Int32.ofInt a).toInt8.toInt32).toInt
def landD (a b : Int) : Int := w64 (Int64.ofInt a &&& Int64.ofInt b).toInt
def lorD (a b : Int) : Int := w64 (Int64.ofInt a ||| Int64.ofInt b).toInt
def lshD (a b : Int) : Int := w64 (Int64.ofInt a <<< ((Int32.ofInt b).toInt64 &&& 63)).toInt
def lsrD (a b : Int) : Int := w64 (Int64.ofInt a >>> ((Int32.ofInt b).toInt64 &&& 63)).toInt
def lusD (a b : Int) : Int := w64 (((Int64.ofInt a).toUInt64 >>> ((Int32.ofInt b).toInt64.toUInt64 &&& Int64.toUInt64 63)).toInt64).toInt
def lcmD (a b : Int) : Int := if a < b then -1 else if a = b then 0 else 1
theorem ofI_le {x y : Int} (hx : R32 x) (hy : R32 y) : Int32.ofInt x ≤ Int32.ofInt y ↔ x ≤ y := by rw [Int32.le_iff_toInt_le, hx.toI, hy.toI]
section CORE3
variable {p : Program} {l : Launch} {e : Env} {R : Room} {s : State} {m : MethodId} {args : Array Value} {below : List Frame} {meth : Method} {c : Code} {D : va_G} {G : gG} {A : Nat → Prop} {H0 : Heap} {sg : Bool} {n0 : Int} {M : mM} {x : Option vV × hH} {cells slots : Nat} {pc : Nat} {lv : List (Nat × vV)} {st : List vV} {h : hH}
theorem r_istore {i : Nat} {v : vV} {lv' : List (Nat × vV)} (hd : decode M.1 pc = .ok (.istore i, 2)) (hv : v.1 = 0 ∨ v.1 = 2) (hn9 : i < M.2.1) (hl : (i, v) :: lv.filter (fl1 i) = lv') (kk : Wq p l e R s m args below meth c D G A H0 sg n0 M x cells slots (pc + 2) lv' st h) : Wq p l e R s m args below meth c D G A H0 sg n0 M x cells slots pc lv (v :: st) h := by
  obtain ⟨t, y⟩ := v
  intro hC hh hn hlv hst H locs ls hw hS hls
  have hv9 := hst _ List.mem_cons_self
  have hm := lvm (G := G) (v := (t, y)) (fl1 i) (fun q => !(q.1 == i) && !(q.1 + 1 == i && q.2.category == 2)) (fun q => by simp only [fl1, cv_cat]) hl
  rcases hv with e9 | e9 <;> (dsimp only at e9; subst e9; exact lv_istore hC.1 hC.2.1 hd hls hn9 hm (fun ls' hls' => kk hC hh hn (lvc hv9 hlv _ hl) (fun q hq => hst q (List.mem_cons_of_mem _ hq)) H locs ls' hw hS hls'))
theorem r_istore_n {k : Fin 4} {i : Nat} {v : vV} {lv' : List (Nat × vV)} (hd : decode M.1 pc = .ok (.istore_n k, 1)) (hi : (k : Nat) = i) (hv : v.1 = 0 ∨ v.1 = 2) (hn9 : i < M.2.1) (hl : (i, v) :: lv.filter (fl1 i) = lv') (kk : Wq p l e R s m args below meth c D G A H0 sg n0 M x cells slots (pc + 1) lv' st h) : Wq p l e R s m args below meth c D G A H0 sg n0 M x cells slots pc lv (v :: st) h := by
  obtain ⟨t, y⟩ := v
  intro hC hh hn hlv hst H locs ls hw hS hls
  have hv9 := hst _ List.mem_cons_self
  have hm := lvm (G := G) (v := (t, y)) (fl1 i) (fun q => !(q.1 == i) && !(q.1 + 1 == i && q.2.category == 2)) (fun q => by simp only [fl1, cv_cat]) hl
  rcases hv with e9 | e9 <;> (dsimp only at e9; subst e9; exact lv_istore_n hC.1 hC.2.1 hd hi hls hn9 hm (fun ls' hls' => kk hC hh hn (lvc hv9 hlv _ hl) (fun q hq => hst q (List.mem_cons_of_mem _ hq)) H locs ls' hw hS hls'))
theorem r_lstore {i : Nat} {y : Int} {lv' : List (Nat × vV)} (hd : decode M.1 pc = .ok (.lstore i, 2)) (hn9 : i + 1 < M.2.1) (hl : (i, ((1, y) : vV)) :: lv.filter (fl2 i) = lv') (kk : Wq p l e R s m args below meth c D G A H0 sg n0 M x cells slots (pc + 2) lv' st h) : Wq p l e R s m args below meth c D G A H0 sg n0 M x cells slots pc lv ((1, y) :: st) h := by
  intro hC hh hn hlv hst H locs ls hw hS hls
  have hv9 := hst _ List.mem_cons_self
  have hm := lvm (G := G) (v := (1, y)) (fl2 i) (fun q => !(q.1 == i) && (!(q.1 == i + 1) && !(q.1 + 1 == i && q.2.category == 2))) (fun q => by simp only [fl2, cv_cat]) hl
  exact lv_lstore hC.1 hC.2.1 hd hls hn9 hm (fun ls' hls' => kk hC hh hn (lvc hv9 hlv _ hl) (fun q hq => hst q (List.mem_cons_of_mem _ hq)) H locs ls' hw hS hls')
theorem r_lstore_n {k : Fin 4} {i : Nat} {y : Int} {lv' : List (Nat × vV)} (hd : decode M.1 pc = .ok (.lstore_n k, 1)) (hi : (k : Nat) = i) (hn9 : i + 1 < M.2.1) (hl : (i, ((1, y) : vV)) :: lv.filter (fl2 i) = lv') (kk : Wq p l e R s m args below meth c D G A H0 sg n0 M x cells slots (pc + 1) lv' st h) : Wq p l e R s m args below meth c D G A H0 sg n0 M x cells slots pc lv ((1, y) :: st) h := by
  intro hC hh hn hlv hst H locs ls hw hS hls
  have hv9 := hst _ List.mem_cons_self
  have hm := lvm (G := G) (v := (1, y)) (fl2 i) (fun q => !(q.1 == i) && (!(q.1 == i + 1) && !(q.1 + 1 == i && q.2.category == 2))) (fun q => by simp only [fl2, cv_cat]) hl
  exact lv_lstore_n hC.1 hC.2.1 hd hi hls hn9 hm (fun ls' hls' => kk hC hh hn (lvc hv9 hlv _ hl) (fun q hq => hst q (List.mem_cons_of_mem _ hq)) H locs ls' hw hS hls')
theorem r_astore {i : Nat} {v : vV} {lv' : List (Nat × vV)} (hd : decode M.1 pc = .ok (.astore i, 2)) (hv : 3 ≤ v.1) (hn9 : i < M.2.1) (hl : (i, v) :: lv.filter (fl1 i) = lv') (kk : Wq p l e R s m args below meth c D G A H0 sg n0 M x cells slots (pc + 2) lv' st h) : Wq p l e R s m args below meth c D G A H0 sg n0 M x cells slots pc lv (v :: st) h := by
  intro hC hh hn hlv hst H locs ls hw hS hls
  have hv9 := hst _ List.mem_cons_self
  have hm := lvm (G := G) (v := v) (fl1 i) (fun q => !(q.1 == i) && !(q.1 + 1 == i && q.2.category == 2)) (fun q => by simp only [fl1, cv_cat]) hl
  rw [List.map_cons]
  rcases cv_ref G.1 hv with e9 | e9
  · rw [e9] at hm ⊢; exact lv_astoreN hC.1 hC.2.1 hd hls hn9 hm (fun ls' hls' => kk hC hh hn (lvc hv9 hlv _ hl) (fun q hq => hst q (List.mem_cons_of_mem _ hq)) H locs ls' hw hS hls')
  · rw [e9] at hm ⊢; exact lv_astore hC.1 hC.2.1 hd hls hn9 hm (fun ls' hls' => kk hC hh hn (lvc hv9 hlv _ hl) (fun q hq => hst q (List.mem_cons_of_mem _ hq)) H locs ls' hw hS hls')
theorem r_astore_n {k : Fin 4} {i : Nat} {v : vV} {lv' : List (Nat × vV)} (hd : decode M.1 pc = .ok (.astore_n k, 1)) (hi : (k : Nat) = i) (hv : 3 ≤ v.1) (hn9 : i < M.2.1) (hl : (i, v) :: lv.filter (fl1 i) = lv') (kk : Wq p l e R s m args below meth c D G A H0 sg n0 M x cells slots (pc + 1) lv' st h) : Wq p l e R s m args below meth c D G A H0 sg n0 M x cells slots pc lv (v :: st) h := by
  intro hC hh hn hlv hst H locs ls hw hS hls
  have hv9 := hst _ List.mem_cons_self
  have hm := lvm (G := G) (v := v) (fl1 i) (fun q => !(q.1 == i) && !(q.1 + 1 == i && q.2.category == 2)) (fun q => by simp only [fl1, cv_cat]) hl
  rw [List.map_cons]
  rcases cv_ref G.1 hv with e9 | e9
  · rw [e9] at hm ⊢; exact lv_astore_nN hC.1 hC.2.1 hd hi hls hn9 hm (fun ls' hls' => kk hC hh hn (lvc hv9 hlv _ hl) (fun q hq => hst q (List.mem_cons_of_mem _ hq)) H locs ls' hw hS hls')
  · rw [e9] at hm ⊢; exact lv_astore_n hC.1 hC.2.1 hd hi hls hn9 hm (fun ls' hls' => kk hC hh hn (lvc hv9 hlv _ hl) (fun q hq => hst q (List.mem_cons_of_mem _ hq)) H locs ls' hw hS hls')
theorem r_iinc {i k : Nat} {n v : Int} {lv' : List (Nat × vV)} (hd : decode M.1 pc = .ok (.iinc i n, 3)) (hk : lv[k]? = some (i, (0, v))) (hn9 : i < M.2.1) (hl : (i, ((0, w32 (v + n)) : vV)) :: lv.filter (fl1 i) = lv') (kk : Wq p l e R s m args below meth c D G A H0 sg n0 M x cells slots (pc + 3) lv' st h) : Wq p l e R s m args below meth c D G A H0 sg n0 M x cells slots pc lv st h := by
  intro hC hh hn hlv hst H locs ls hw hS hls
  have hm := lvm (G := G) (v := (0, w32 (v + n))) (fl1 i) (fun q => !(q.1 == i) && !(q.1 + 1 == i && q.2.category == 2)) (fun q => by simp only [fl1, cv_cat]) hl
  refine lv_iinc (k := k) (v := Int32.ofInt (w32 (v + n))) hC.1 hC.2.1 hd hls (by rw [List.getElem?_map, hk]; rfl) (by rw [w32_ofInt, Int32.ofInt_add]) hn9 hm (fun ls' hls' => kk hC hh hn (lvc (v := (0, w32 (v + n))) (R32_w _) hlv _ hl) hst H locs ls' hw hS hls')
theorem r_dup {v : vV} (hd : decode M.1 pc = .ok (.dup, 1)) (hv : v.1 ≠ 1) (kk : Wq p l e R s m args below meth c D G A H0 sg n0 M x cells slots (pc + 1) lv (v :: v :: st) h) : Wq p l e R s m args below meth c D G A H0 sg n0 M x cells slots pc lv (v :: st) h := by
  intro hC hh hn hlv hst H locs ls hw hS hls
  exact lv_dup hC.1 hC.2.1 hd (cv_cat1 _ hv) (kk hC hh hn hlv (stc (hst v List.mem_cons_self) hst) H locs ls hw hS hls)
theorem r_dup2 {v w : vV} (hd : decode M.1 pc = .ok (.dup2, 1)) (hv : v.1 ≠ 1) (hv2 : w.1 ≠ 1) (kk : Wq p l e R s m args below meth c D G A H0 sg n0 M x cells slots (pc + 1) lv (v :: w :: v :: w :: st) h) : Wq p l e R s m args below meth c D G A H0 sg n0 M x cells slots pc lv (v :: w :: st) h := by
  intro hC hh hn hlv hst H locs ls hw hS hls
  exact lv_dup2_11 hC.1 hC.2.1 hd (cv_cat1 _ hv) (cv_cat1 _ hv2) (kk hC hh hn hlv (stc (hst v List.mem_cons_self) (stc (hst w (List.mem_cons_of_mem _ List.mem_cons_self)) hst)) H locs ls hw hS hls)
theorem r_pop {v : vV} (hd : decode M.1 pc = .ok (.pop, 1)) (hv : v.1 ≠ 1) (kk : Wq p l e R s m args below meth c D G A H0 sg n0 M x cells slots (pc + 1) lv st h) : Wq p l e R s m args below meth c D G A H0 sg n0 M x cells slots pc lv (v :: st) h := by
  intro hC hh hn hlv hst H locs ls hw hS hls
  exact lv_pop hC.1 hC.2.1 hd (cv_cat1 _ hv) (kk hC hh hn hlv (fun q hq => hst q (List.mem_cons_of_mem _ hq)) H locs ls hw hS hls)
theorem r_iadd {a b : Int} (hd : decode M.1 pc = .ok (.iadd, 1)) (kk : Wq p l e R s m args below meth c D G A H0 sg n0 M x cells slots (pc + 1) lv ((0, w32 (a + b)) :: st) h) : Wq p l e R s m args below meth c D G A H0 sg n0 M x cells slots pc lv ((0, b) :: (0, a) :: st) h := by
  intro hC hh hn hlv hst H locs ls hw hS hls
  have k2 := kk hC hh hn hlv (stc (v := (0, w32 (a + b))) (R32_w _) (fun q hq => hst q (List.mem_cons_of_mem _ (List.mem_cons_of_mem _ hq)))) H locs ls hw hS hls
  have ha : R32 a := hst _ (List.mem_cons_of_mem _ List.mem_cons_self)
  have hb : R32 b := hst _ List.mem_cons_self
  rw [List.map_cons, show cv G.1 (0, w32 (a + b)) = .int (Int32.ofInt a + Int32.ofInt b) from by simp only [cv, w32_ofInt, w64_ofInt, Int32.ofInt_toInt, Int64.ofInt_toInt, Int32.ofInt_add, Int32.ofInt_sub, Int32.ofInt_mul, Int64.ofInt_add, Int64.ofInt_mul, iadD, iorD, ixoD, ishD, isrD, iusD, idvD, irmD, landD, lorD, lshD, lsrD, lusD]] at k2
  exact lv_iadd hC.1 hC.2.1 hd k2
theorem r_isub {a b : Int} (hd : decode M.1 pc = .ok (.isub, 1)) (kk : Wq p l e R s m args below meth c D G A H0 sg n0 M x cells slots (pc + 1) lv ((0, w32 (a - b)) :: st) h) : Wq p l e R s m args below meth c D G A H0 sg n0 M x cells slots pc lv ((0, b) :: (0, a) :: st) h := by
  intro hC hh hn hlv hst H locs ls hw hS hls
  have k2 := kk hC hh hn hlv (stc (v := (0, w32 (a - b))) (R32_w _) (fun q hq => hst q (List.mem_cons_of_mem _ (List.mem_cons_of_mem _ hq)))) H locs ls hw hS hls
  have ha : R32 a := hst _ (List.mem_cons_of_mem _ List.mem_cons_self)
  have hb : R32 b := hst _ List.mem_cons_self
  rw [List.map_cons, show cv G.1 (0, w32 (a - b)) = .int (Int32.ofInt a - Int32.ofInt b) from by simp only [cv, w32_ofInt, w64_ofInt, Int32.ofInt_toInt, Int64.ofInt_toInt, Int32.ofInt_add, Int32.ofInt_sub, Int32.ofInt_mul, Int64.ofInt_add, Int64.ofInt_mul, iadD, iorD, ixoD, ishD, isrD, iusD, idvD, irmD, landD, lorD, lshD, lsrD, lusD]] at k2
  exact lv_isub hC.1 hC.2.1 hd k2
theorem r_imul {a b : Int} (hd : decode M.1 pc = .ok (.imul, 1)) (kk : Wq p l e R s m args below meth c D G A H0 sg n0 M x cells slots (pc + 1) lv ((0, w32 (a * b)) :: st) h) : Wq p l e R s m args below meth c D G A H0 sg n0 M x cells slots pc lv ((0, b) :: (0, a) :: st) h := by
  intro hC hh hn hlv hst H locs ls hw hS hls
  have k2 := kk hC hh hn hlv (stc (v := (0, w32 (a * b))) (R32_w _) (fun q hq => hst q (List.mem_cons_of_mem _ (List.mem_cons_of_mem _ hq)))) H locs ls hw hS hls
  have ha : R32 a := hst _ (List.mem_cons_of_mem _ List.mem_cons_self)
  have hb : R32 b := hst _ List.mem_cons_self
  rw [List.map_cons, show cv G.1 (0, w32 (a * b)) = .int (Int32.ofInt a * Int32.ofInt b) from by simp only [cv, w32_ofInt, w64_ofInt, Int32.ofInt_toInt, Int64.ofInt_toInt, Int32.ofInt_add, Int32.ofInt_sub, Int32.ofInt_mul, Int64.ofInt_add, Int64.ofInt_mul, iadD, iorD, ixoD, ishD, isrD, iusD, idvD, irmD, landD, lorD, lshD, lsrD, lusD]] at k2
  exact lv_imul hC.1 hC.2.1 hd k2
theorem r_iand {a b : Int} (hd : decode M.1 pc = .ok (.iand, 1)) (kk : Wq p l e R s m args below meth c D G A H0 sg n0 M x cells slots (pc + 1) lv ((0, iadD a b) :: st) h) : Wq p l e R s m args below meth c D G A H0 sg n0 M x cells slots pc lv ((0, b) :: (0, a) :: st) h := by
  intro hC hh hn hlv hst H locs ls hw hS hls
  have k2 := kk hC hh hn hlv (stc (v := (0, iadD a b)) (R32_w _) (fun q hq => hst q (List.mem_cons_of_mem _ (List.mem_cons_of_mem _ hq)))) H locs ls hw hS hls
  have ha : R32 a := hst _ (List.mem_cons_of_mem _ List.mem_cons_self)
  have hb : R32 b := hst _ List.mem_cons_self
  rw [List.map_cons, show cv G.1 (0, iadD a b) = .int (Int32.ofInt a &&& Int32.ofInt b) from by simp only [cv, w32_ofInt, w64_ofInt, Int32.ofInt_toInt, Int64.ofInt_toInt, Int32.ofInt_add, Int32.ofInt_sub, Int32.ofInt_mul, Int64.ofInt_add, Int64.ofInt_mul, iadD, iorD, ixoD, ishD, isrD, iusD, idvD, irmD, landD, lorD, lshD, lsrD, lusD]] at k2
  exact lv_iand hC.1 hC.2.1 hd k2
theorem r_ior {a b : Int} (hd : decode M.1 pc = .ok (.ior, 1)) (kk : Wq p l e R s m args below meth c D G A H0 sg n0 M x cells slots (pc + 1) lv ((0, iorD a b) :: st) h) : Wq p l e R s m args below meth c D G A H0 sg n0 M x cells slots pc lv ((0, b) :: (0, a) :: st) h := by
  intro hC hh hn hlv hst H locs ls hw hS hls
  have k2 := kk hC hh hn hlv (stc (v := (0, iorD a b)) (R32_w _) (fun q hq => hst q (List.mem_cons_of_mem _ (List.mem_cons_of_mem _ hq)))) H locs ls hw hS hls
  have ha : R32 a := hst _ (List.mem_cons_of_mem _ List.mem_cons_self)
  have hb : R32 b := hst _ List.mem_cons_self
  rw [List.map_cons, show cv G.1 (0, iorD a b) = .int (Int32.ofInt a ||| Int32.ofInt b) from by simp only [cv, w32_ofInt, w64_ofInt, Int32.ofInt_toInt, Int64.ofInt_toInt, Int32.ofInt_add, Int32.ofInt_sub, Int32.ofInt_mul, Int64.ofInt_add, Int64.ofInt_mul, iadD, iorD, ixoD, ishD, isrD, iusD, idvD, irmD, landD, lorD, lshD, lsrD, lusD]] at k2
  exact lv_ior hC.1 hC.2.1 hd k2
theorem r_ixor {a b : Int} (hd : decode M.1 pc = .ok (.ixor, 1)) (kk : Wq p l e R s m args below meth c D G A H0 sg n0 M x cells slots (pc + 1) lv ((0, ixoD a b) :: st) h) : Wq p l e R s m args below meth c D G A H0 sg n0 M x cells slots pc lv ((0, b) :: (0, a) :: st) h := by
  intro hC hh hn hlv hst H locs ls hw hS hls
  have k2 := kk hC hh hn hlv (stc (v := (0, ixoD a b)) (R32_w _) (fun q hq => hst q (List.mem_cons_of_mem _ (List.mem_cons_of_mem _ hq)))) H locs ls hw hS hls
  have ha : R32 a := hst _ (List.mem_cons_of_mem _ List.mem_cons_self)
  have hb : R32 b := hst _ List.mem_cons_self
  rw [List.map_cons, show cv G.1 (0, ixoD a b) = .int (Int32.ofInt a ^^^ Int32.ofInt b) from by simp only [cv, w32_ofInt, w64_ofInt, Int32.ofInt_toInt, Int64.ofInt_toInt, Int32.ofInt_add, Int32.ofInt_sub, Int32.ofInt_mul, Int64.ofInt_add, Int64.ofInt_mul, iadD, iorD, ixoD, ishD, isrD, iusD, idvD, irmD, landD, lorD, lshD, lsrD, lusD]] at k2
  exact lv_ixor hC.1 hC.2.1 hd k2
theorem r_ishl {a b : Int} (hd : decode M.1 pc = .ok (.ishl, 1)) (kk : Wq p l e R s m args below meth c D G A H0 sg n0 M x cells slots (pc + 1) lv ((0, ishD a b) :: st) h) : Wq p l e R s m args below meth c D G A H0 sg n0 M x cells slots pc lv ((0, b) :: (0, a) :: st) h := by
  intro hC hh hn hlv hst H locs ls hw hS hls
  have k2 := kk hC hh hn hlv (stc (v := (0, ishD a b)) (R32_w _) (fun q hq => hst q (List.mem_cons_of_mem _ (List.mem_cons_of_mem _ hq)))) H locs ls hw hS hls
  have ha : R32 a := hst _ (List.mem_cons_of_mem _ List.mem_cons_self)
  have hb : R32 b := hst _ List.mem_cons_self
  rw [List.map_cons, show cv G.1 (0, ishD a b) = .int (Int32.ofInt a <<< (Int32.ofInt b &&& 31)) from by simp only [cv, w32_ofInt, w64_ofInt, Int32.ofInt_toInt, Int64.ofInt_toInt, Int32.ofInt_add, Int32.ofInt_sub, Int32.ofInt_mul, Int64.ofInt_add, Int64.ofInt_mul, iadD, iorD, ixoD, ishD, isrD, iusD, idvD, irmD, landD, lorD, lshD, lsrD, lusD]] at k2
  exact lv_ishl hC.1 hC.2.1 hd k2
theorem r_ishr {a b : Int} (hd : decode M.1 pc = .ok (.ishr, 1)) (kk : Wq p l e R s m args below meth c D G A H0 sg n0 M x cells slots (pc + 1) lv ((0, isrD a b) :: st) h) : Wq p l e R s m args below meth c D G A H0 sg n0 M x cells slots pc lv ((0, b) :: (0, a) :: st) h := by
  intro hC hh hn hlv hst H locs ls hw hS hls
  have k2 := kk hC hh hn hlv (stc (v := (0, isrD a b)) (R32_w _) (fun q hq => hst q (List.mem_cons_of_mem _ (List.mem_cons_of_mem _ hq)))) H locs ls hw hS hls
  have ha : R32 a := hst _ (List.mem_cons_of_mem _ List.mem_cons_self)
  have hb : R32 b := hst _ List.mem_cons_self
  rw [List.map_cons, show cv G.1 (0, isrD a b) = .int (Int32.ofInt a >>> (Int32.ofInt b &&& 31)) from by simp only [cv, w32_ofInt, w64_ofInt, Int32.ofInt_toInt, Int64.ofInt_toInt, Int32.ofInt_add, Int32.ofInt_sub, Int32.ofInt_mul, Int64.ofInt_add, Int64.ofInt_mul, iadD, iorD, ixoD, ishD, isrD, iusD, idvD, irmD, landD, lorD, lshD, lsrD, lusD]] at k2
  exact lv_ishr hC.1 hC.2.1 hd k2
theorem r_iushr {a b : Int} (hd : decode M.1 pc = .ok (.iushr, 1)) (kk : Wq p l e R s m args below meth c D G A H0 sg n0 M x cells slots (pc + 1) lv ((0, iusD a b) :: st) h) : Wq p l e R s m args below meth c D G A H0 sg n0 M x cells slots pc lv ((0, b) :: (0, a) :: st) h := by
  intro hC hh hn hlv hst H locs ls hw hS hls
  have k2 := kk hC hh hn hlv (stc (v := (0, iusD a b)) (R32_w _) (fun q hq => hst q (List.mem_cons_of_mem _ (List.mem_cons_of_mem _ hq)))) H locs ls hw hS hls
  have ha : R32 a := hst _ (List.mem_cons_of_mem _ List.mem_cons_self)
  have hb : R32 b := hst _ List.mem_cons_self
  rw [List.map_cons, show cv G.1 (0, iusD a b) = .int (((Int32.ofInt a).toUInt32 >>> ((Int32.ofInt b).toUInt32 &&& Int32.toUInt32 31)).toInt32) from by simp only [cv, w32_ofInt, w64_ofInt, Int32.ofInt_toInt, Int64.ofInt_toInt, Int32.ofInt_add, Int32.ofInt_sub, Int32.ofInt_mul, Int64.ofInt_add, Int64.ofInt_mul, iadD, iorD, ixoD, ishD, isrD, iusD, idvD, irmD, landD, lorD, lshD, lsrD, lusD]] at k2
  exact lv_iushr hC.1 hC.2.1 hd rfl k2
theorem r_idiv {a b : Int} (hd : decode M.1 pc = .ok (.idiv, 1)) (hb0 : ¬ b = 0) (kk : Wq p l e R s m args below meth c D G A H0 sg n0 M x cells slots (pc + 1) lv ((0, idvD a b) :: st) h) : Wq p l e R s m args below meth c D G A H0 sg n0 M x cells slots pc lv ((0, b) :: (0, a) :: st) h := by
  intro hC hh hn hlv hst H locs ls hw hS hls
  have k2 := kk hC hh hn hlv (stc (v := (0, idvD a b)) (R32_w _) (fun q hq => hst q (List.mem_cons_of_mem _ (List.mem_cons_of_mem _ hq)))) H locs ls hw hS hls
  have ha : R32 a := hst _ (List.mem_cons_of_mem _ List.mem_cons_self)
  have hb : R32 b := hst _ List.mem_cons_self
  rw [List.map_cons, show cv G.1 (0, idvD a b) = .int (Int32.ofInt a / Int32.ofInt b) from by simp only [cv, w32_ofInt, w64_ofInt, Int32.ofInt_toInt, Int64.ofInt_toInt, Int32.ofInt_add, Int32.ofInt_sub, Int32.ofInt_mul, Int64.ofInt_add, Int64.ofInt_mul, iadD, iorD, ixoD, ishD, isrD, iusD, idvD, irmD, landD, lorD, lshD, lsrD, lusD]] at k2
  exact lv_idiv hC.1 hC.2.1 hd (fun z => hb0 ((ofI_eq hb (by decide)).mp z)) k2
theorem r_irem {a b : Int} (hd : decode M.1 pc = .ok (.irem, 1)) (hb0 : ¬ b = 0) (kk : Wq p l e R s m args below meth c D G A H0 sg n0 M x cells slots (pc + 1) lv ((0, irmD a b) :: st) h) : Wq p l e R s m args below meth c D G A H0 sg n0 M x cells slots pc lv ((0, b) :: (0, a) :: st) h := by
  intro hC hh hn hlv hst H locs ls hw hS hls
  have k2 := kk hC hh hn hlv (stc (v := (0, irmD a b)) (R32_w _) (fun q hq => hst q (List.mem_cons_of_mem _ (List.mem_cons_of_mem _ hq)))) H locs ls hw hS hls
  have ha : R32 a := hst _ (List.mem_cons_of_mem _ List.mem_cons_self)
  have hb : R32 b := hst _ List.mem_cons_self
  rw [List.map_cons, show cv G.1 (0, irmD a b) = .int (Int32.ofInt a - Int32.ofInt a / Int32.ofInt b * Int32.ofInt b) from by simp only [cv, w32_ofInt, w64_ofInt, Int32.ofInt_toInt, Int64.ofInt_toInt, Int32.ofInt_add, Int32.ofInt_sub, Int32.ofInt_mul, Int64.ofInt_add, Int64.ofInt_mul, iadD, iorD, ixoD, ishD, isrD, iusD, idvD, irmD, landD, lorD, lshD, lsrD, lusD]] at k2
  exact lv_irem hC.1 hC.2.1 hd (fun z => hb0 ((ofI_eq hb (by decide)).mp z)) k2
theorem r_ladd {a b : Int} (hd : decode M.1 pc = .ok (.ladd, 1)) (kk : Wq p l e R s m args below meth c D G A H0 sg n0 M x cells slots (pc + 1) lv ((1, w64 (a + b)) :: st) h) : Wq p l e R s m args below meth c D G A H0 sg n0 M x cells slots pc lv ((1, b) :: (1, a) :: st) h := by
  intro hC hh hn hlv hst H locs ls hw hS hls
  have k2 := kk hC hh hn hlv (stc (v := (1, w64 (a + b))) (R64_w _) (fun q hq => hst q (List.mem_cons_of_mem _ (List.mem_cons_of_mem _ hq)))) H locs ls hw hS hls
  have ha : R64 a := hst _ (List.mem_cons_of_mem _ List.mem_cons_self)
  have hb : R64 b := hst _ List.mem_cons_self
  rw [List.map_cons, show cv G.1 (1, w64 (a + b)) = .long (Int64.ofInt a + Int64.ofInt b) from by simp only [cv, w32_ofInt, w64_ofInt, Int32.ofInt_toInt, Int64.ofInt_toInt, Int32.ofInt_add, Int32.ofInt_sub, Int32.ofInt_mul, Int64.ofInt_add, Int64.ofInt_mul, iadD, iorD, ixoD, ishD, isrD, iusD, idvD, irmD, landD, lorD, lshD, lsrD, lusD]] at k2
  exact lv_ladd hC.1 hC.2.1 hd k2
theorem r_lmul {a b : Int} (hd : decode M.1 pc = .ok (.lmul, 1)) (kk : Wq p l e R s m args below meth c D G A H0 sg n0 M x cells slots (pc + 1) lv ((1, w64 (a * b)) :: st) h) : Wq p l e R s m args below meth c D G A H0 sg n0 M x cells slots pc lv ((1, b) :: (1, a) :: st) h := by
  intro hC hh hn hlv hst H locs ls hw hS hls
  have k2 := kk hC hh hn hlv (stc (v := (1, w64 (a * b))) (R64_w _) (fun q hq => hst q (List.mem_cons_of_mem _ (List.mem_cons_of_mem _ hq)))) H locs ls hw hS hls
  have ha : R64 a := hst _ (List.mem_cons_of_mem _ List.mem_cons_self)
  have hb : R64 b := hst _ List.mem_cons_self
  rw [List.map_cons, show cv G.1 (1, w64 (a * b)) = .long (Int64.ofInt a * Int64.ofInt b) from by simp only [cv, w32_ofInt, w64_ofInt, Int32.ofInt_toInt, Int64.ofInt_toInt, Int32.ofInt_add, Int32.ofInt_sub, Int32.ofInt_mul, Int64.ofInt_add, Int64.ofInt_mul, iadD, iorD, ixoD, ishD, isrD, iusD, idvD, irmD, landD, lorD, lshD, lsrD, lusD]] at k2
  exact lv_lmul hC.1 hC.2.1 hd k2
theorem r_land {a b : Int} (hd : decode M.1 pc = .ok (.land, 1)) (kk : Wq p l e R s m args below meth c D G A H0 sg n0 M x cells slots (pc + 1) lv ((1, landD a b) :: st) h) : Wq p l e R s m args below meth c D G A H0 sg n0 M x cells slots pc lv ((1, b) :: (1, a) :: st) h := by
  intro hC hh hn hlv hst H locs ls hw hS hls
  have k2 := kk hC hh hn hlv (stc (v := (1, landD a b)) (R64_w _) (fun q hq => hst q (List.mem_cons_of_mem _ (List.mem_cons_of_mem _ hq)))) H locs ls hw hS hls
  have ha : R64 a := hst _ (List.mem_cons_of_mem _ List.mem_cons_self)
  have hb : R64 b := hst _ List.mem_cons_self
  rw [List.map_cons, show cv G.1 (1, landD a b) = .long (Int64.ofInt a &&& Int64.ofInt b) from by simp only [cv, w32_ofInt, w64_ofInt, Int32.ofInt_toInt, Int64.ofInt_toInt, Int32.ofInt_add, Int32.ofInt_sub, Int32.ofInt_mul, Int64.ofInt_add, Int64.ofInt_mul, iadD, iorD, ixoD, ishD, isrD, iusD, idvD, irmD, landD, lorD, lshD, lsrD, lusD]] at k2
  exact lv_land hC.1 hC.2.1 hd k2
theorem r_lor {a b : Int} (hd : decode M.1 pc = .ok (.lor, 1)) (kk : Wq p l e R s m args below meth c D G A H0 sg n0 M x cells slots (pc + 1) lv ((1, lorD a b) :: st) h) : Wq p l e R s m args below meth c D G A H0 sg n0 M x cells slots pc lv ((1, b) :: (1, a) :: st) h := by
  intro hC hh hn hlv hst H locs ls hw hS hls
  have k2 := kk hC hh hn hlv (stc (v := (1, lorD a b)) (R64_w _) (fun q hq => hst q (List.mem_cons_of_mem _ (List.mem_cons_of_mem _ hq)))) H locs ls hw hS hls
  have ha : R64 a := hst _ (List.mem_cons_of_mem _ List.mem_cons_self)
  have hb : R64 b := hst _ List.mem_cons_self
  rw [List.map_cons, show cv G.1 (1, lorD a b) = .long (Int64.ofInt a ||| Int64.ofInt b) from by simp only [cv, w32_ofInt, w64_ofInt, Int32.ofInt_toInt, Int64.ofInt_toInt, Int32.ofInt_add, Int32.ofInt_sub, Int32.ofInt_mul, Int64.ofInt_add, Int64.ofInt_mul, iadD, iorD, ixoD, ishD, isrD, iusD, idvD, irmD, landD, lorD, lshD, lsrD, lusD]] at k2
  exact lv_lor hC.1 hC.2.1 hd k2
theorem r_lshl {a b : Int} (hd : decode M.1 pc = .ok (.lshl, 1)) (kk : Wq p l e R s m args below meth c D G A H0 sg n0 M x cells slots (pc + 1) lv ((1, lshD a b) :: st) h) : Wq p l e R s m args below meth c D G A H0 sg n0 M x cells slots pc lv ((0, b) :: (1, a) :: st) h := by
  intro hC hh hn hlv hst H locs ls hw hS hls
  have k2 := kk hC hh hn hlv (stc (v := (1, lshD a b)) (R64_w _) (fun q hq => hst q (List.mem_cons_of_mem _ (List.mem_cons_of_mem _ hq)))) H locs ls hw hS hls
  have ha : R64 a := hst _ (List.mem_cons_of_mem _ List.mem_cons_self)
  have hb : R32 b := hst _ List.mem_cons_self
  rw [List.map_cons, show cv G.1 (1, lshD a b) = .long (Int64.ofInt a <<< ((Int32.ofInt b).toInt64 &&& 63)) from by simp only [cv, w32_ofInt, w64_ofInt, Int32.ofInt_toInt, Int64.ofInt_toInt, Int32.ofInt_add, Int32.ofInt_sub, Int32.ofInt_mul, Int64.ofInt_add, Int64.ofInt_mul, iadD, iorD, ixoD, ishD, isrD, iusD, idvD, irmD, landD, lorD, lshD, lsrD, lusD]] at k2
  exact lv_lshl hC.1 hC.2.1 hd rfl k2
theorem r_lshr {a b : Int} (hd : decode M.1 pc = .ok (.lshr, 1)) (kk : Wq p l e R s m args below meth c D G A H0 sg n0 M x cells slots (pc + 1) lv ((1, lsrD a b) :: st) h) : Wq p l e R s m args below meth c D G A H0 sg n0 M x cells slots pc lv ((0, b) :: (1, a) :: st) h := by
  intro hC hh hn hlv hst H locs ls hw hS hls
  have k2 := kk hC hh hn hlv (stc (v := (1, lsrD a b)) (R64_w _) (fun q hq => hst q (List.mem_cons_of_mem _ (List.mem_cons_of_mem _ hq)))) H locs ls hw hS hls
  have ha : R64 a := hst _ (List.mem_cons_of_mem _ List.mem_cons_self)
  have hb : R32 b := hst _ List.mem_cons_self
  rw [List.map_cons, show cv G.1 (1, lsrD a b) = .long (Int64.ofInt a >>> ((Int32.ofInt b).toInt64 &&& 63)) from by simp only [cv, w32_ofInt, w64_ofInt, Int32.ofInt_toInt, Int64.ofInt_toInt, Int32.ofInt_add, Int32.ofInt_sub, Int32.ofInt_mul, Int64.ofInt_add, Int64.ofInt_mul, iadD, iorD, ixoD, ishD, isrD, iusD, idvD, irmD, landD, lorD, lshD, lsrD, lusD]] at k2
  exact lv_lshr hC.1 hC.2.1 hd rfl k2
theorem r_lushr {a b : Int} (hd : decode M.1 pc = .ok (.lushr, 1)) (kk : Wq p l e R s m args below meth c D G A H0 sg n0 M x cells slots (pc + 1) lv ((1, lusD a b) :: st) h) : Wq p l e R s m args below meth c D G A H0 sg n0 M x cells slots pc lv ((0, b) :: (1, a) :: st) h := by
  intro hC hh hn hlv hst H locs ls hw hS hls
  have k2 := kk hC hh hn hlv (stc (v := (1, lusD a b)) (R64_w _) (fun q hq => hst q (List.mem_cons_of_mem _ (List.mem_cons_of_mem _ hq)))) H locs ls hw hS hls
  have ha : R64 a := hst _ (List.mem_cons_of_mem _ List.mem_cons_self)
  have hb : R32 b := hst _ List.mem_cons_self
  rw [List.map_cons, show cv G.1 (1, lusD a b) = .long (((Int64.ofInt a).toUInt64 >>> ((Int32.ofInt b).toInt64.toUInt64 &&& Int64.toUInt64 63)).toInt64) from by simp only [cv, w32_ofInt, w64_ofInt, Int32.ofInt_toInt, Int64.ofInt_toInt, Int32.ofInt_add, Int32.ofInt_sub, Int32.ofInt_mul, Int64.ofInt_add, Int64.ofInt_mul, iadD, iorD, ixoD, ishD, isrD, iusD, idvD, irmD, landD, lorD, lshD, lsrD, lusD]] at k2
  exact lv_lushr hC.1 hC.2.1 hd rfl k2
theorem r_ineg {a : Int} (hd : decode M.1 pc = .ok (.ineg, 1)) (kk : Wq p l e R s m args below meth c D G A H0 sg n0 M x cells slots (pc + 1) lv ((0, w32 (-a)) :: st) h) : Wq p l e R s m args below meth c D G A H0 sg n0 M x cells slots pc lv ((0, a) :: st) h := by
  intro hC hh hn hlv hst H locs ls hw hS hls
  have k2 := kk hC hh hn hlv (stc (v := (0, w32 (-a))) (R32_w _) (fun q hq => hst q (List.mem_cons_of_mem _ hq))) H locs ls hw hS hls
  rw [List.map_cons, show cv G.1 (0, w32 (-a)) = .int (-(Int32.ofInt a)) from by simp only [cv, w32_ofInt, Int32.ofInt_neg]] at k2
  exact lv_ineg hC.1 hC.2.1 hd k2
theorem r_i2b {a : Int} (hd : decode M.1 pc = .ok (.i2b, 1)) (kk : Wq p l e R s m args below meth c D G A H0 sg n0 M x cells slots (pc + 1) lv ((0, i2bD a) :: st) h) : Wq p l e R s m args below meth c D G A H0 sg n0 M x cells slots pc lv ((0, a) :: st) h := by
  intro hC hh hn hlv hst H locs ls hw hS hls
  have k2 := kk hC hh hn hlv (stc (v := (0, i2bD a)) (R32_w _) (fun q hq => hst q (List.mem_cons_of_mem _ hq))) H locs ls hw hS hls
  rw [List.map_cons, show cv G.1 (0, i2bD a) = .int ((Int32.ofInt a).toInt8.toInt32) from by simp only [cv, i2bD, w32_ofInt, Int32.ofInt_toInt]] at k2
  exact lv_i2b hC.1 hC.2.1 hd rfl k2
theorem r_i2l {a : Int} (hd : decode M.1 pc = .ok (.i2l, 1)) (kk : Wq p l e R s m args below meth c D G A H0 sg n0 M x cells slots (pc + 1) lv ((1, a) :: st) h) : Wq p l e R s m args below meth c D G A H0 sg n0 M x cells slots pc lv ((0, a) :: st) h := by
  intro hC hh hn hlv hst H locs ls hw hS hls
  have ha : R32 a := hst _ List.mem_cons_self
  have h64 : R64 a := by rw [R64_iff]; rw [R32_iff] at ha; omega
  have k2 := kk hC hh hn hlv (stc (v := (1, a)) h64 (fun q hq => hst q (List.mem_cons_of_mem _ hq))) H locs ls hw hS hls
  exact lv_i2l hC.1 hC.2.1 hd (by apply Int64.toInt_inj.mp; rw [Int32.toInt_toInt64, ha.toI, h64.toI]) k2
theorem r_l2i {a : Int} (hd : decode M.1 pc = .ok (.l2i, 1)) (kk : Wq p l e R s m args below meth c D G A H0 sg n0 M x cells slots (pc + 1) lv ((0, w32 a) :: st) h) : Wq p l e R s m args below meth c D G A H0 sg n0 M x cells slots pc lv ((1, a) :: st) h := by
  intro hC hh hn hlv hst H locs ls hw hS hls
  have ha : R64 a := hst _ List.mem_cons_self
  have k2 := kk hC hh hn hlv (stc (v := (0, w32 a)) (R32_w _) (fun q hq => hst q (List.mem_cons_of_mem _ hq))) H locs ls hw hS hls
  exact lv_l2i hC.1 hC.2.1 hd (by rw [w32_ofInt]; apply Int32.toInt_inj.mp; rw [Int64.toInt_toInt32, ha.toI, Int32.toInt_ofInt]) k2
theorem r_lcmp {a b : Int} (hd : decode M.1 pc = .ok (.lcmp, 1)) (kk : Wq p l e R s m args below meth c D G A H0 sg n0 M x cells slots (pc + 1) lv ((0, lcmD a b) :: st) h) : Wq p l e R s m args below meth c D G A H0 sg n0 M x cells slots pc lv ((1, b) :: (1, a) :: st) h := by
  intro hC hh hn hlv hst H locs ls hw hS hls
  have ha : R64 a := hst _ (List.mem_cons_of_mem _ List.mem_cons_self)
  have hb : R64 b := hst _ List.mem_cons_self
  have hr : R32 (lcmD a b) := by unfold lcmD; (repeat' split) <;> decide
  have k2 := kk hC hh hn hlv (stc (v := (0, lcmD a b)) hr (fun q hq => hst q (List.mem_cons_of_mem _ (List.mem_cons_of_mem _ hq)))) H locs ls hw hS hls
  rw [List.map_cons, show cv G.1 (0, lcmD a b) = .int (lg_cmp (Int64.ofInt a) (Int64.ofInt b)) from by
    have e1 : Int64.ofInt a < Int64.ofInt b ↔ a < b := by rw [Int64.lt_iff_toInt_lt, ha.toI, hb.toI]
    have e2 : Int64.ofInt b < Int64.ofInt a ↔ b < a := by rw [Int64.lt_iff_toInt_lt, ha.toI, hb.toI]
    have e3 : Int64.ofInt a = Int64.ofInt b ↔ a = b := by rw [← Int64.toInt_inj, ha.toI, hb.toI]
    simp only [cv, lcmD, lg_cmp, gt_iff_lt, e2, e3]
    rcases Int.lt_trichotomy a b with z | z | z
    · rw [if_pos z, if_neg (by omega), if_neg (by omega)]; rfl
    · rw [if_neg (by omega), if_pos z, if_neg (by omega), if_pos z]; rfl
    · rw [if_neg (by omega), if_neg (by omega), if_pos z]; rfl] at k2
  exact W.lcmp hC.1 hC.2.1 hd k2
theorem r_icmp_lt {a b : Int} {off : Int} {tgt : Nat} (hd : decode M.1 pc = .ok (.if_icmp .lt off, 3)) (ht : (pc : Int) + off = (tgt : Int)) (kt : a < b → Wq p l e R s m args below meth c D G A H0 sg n0 M x cells slots tgt lv st h) (kk : ¬ (a < b) → Wq p l e R s m args below meth c D G A H0 sg n0 M x cells slots (pc + 3) lv st h) : Wq p l e R s m args below meth c D G A H0 sg n0 M x cells slots pc lv ((0, b) :: (0, a) :: st) h := by
  intro hC hh hn hlv hst H locs ls hw hS hls
  have ha : R32 a := hst _ (List.mem_cons_of_mem _ List.mem_cons_self)
  have hb : R32 b := hst _ List.mem_cons_self
  exact lv_icmp_lt hC.1 hC.2.1 hd ht (fun z => kt ((ofI_lt ha hb).mp z) hC hh hn hlv (fun q hq => hst q (List.mem_cons_of_mem _ (List.mem_cons_of_mem _ hq))) H locs ls hw hS hls) (fun z => kk (fun y => z ((ofI_lt ha hb).mpr y)) hC hh hn hlv (fun q hq => hst q (List.mem_cons_of_mem _ (List.mem_cons_of_mem _ hq))) H locs ls hw hS hls)
theorem r_icmp_ge {a b : Int} {off : Int} {tgt : Nat} (hd : decode M.1 pc = .ok (.if_icmp .ge off, 3)) (ht : (pc : Int) + off = (tgt : Int)) (kt : ¬ a < b → Wq p l e R s m args below meth c D G A H0 sg n0 M x cells slots tgt lv st h) (kk : a < b → Wq p l e R s m args below meth c D G A H0 sg n0 M x cells slots (pc + 3) lv st h) : Wq p l e R s m args below meth c D G A H0 sg n0 M x cells slots pc lv ((0, b) :: (0, a) :: st) h := by
  intro hC hh hn hlv hst H locs ls hw hS hls
  have ha : R32 a := hst _ (List.mem_cons_of_mem _ List.mem_cons_self)
  have hb : R32 b := hst _ List.mem_cons_self
  exact lv_icmp_ge hC.1 hC.2.1 hd ht (fun z => kt (Int.not_lt.mpr ((ofI_le hb ha).mp z)) hC hh hn hlv (fun q hq => hst q (List.mem_cons_of_mem _ (List.mem_cons_of_mem _ hq))) H locs ls hw hS hls) (fun z => kk (Int.not_le.mp (fun y => z ((ofI_le hb ha).mpr y))) hC hh hn hlv (fun q hq => hst q (List.mem_cons_of_mem _ (List.mem_cons_of_mem _ hq))) H locs ls hw hS hls)
theorem r_icmp_gt {a b : Int} {off : Int} {tgt : Nat} (hd : decode M.1 pc = .ok (.if_icmp .gt off, 3)) (ht : (pc : Int) + off = (tgt : Int)) (kt : b < a → Wq p l e R s m args below meth c D G A H0 sg n0 M x cells slots tgt lv st h) (kk : ¬ (b < a) → Wq p l e R s m args below meth c D G A H0 sg n0 M x cells slots (pc + 3) lv st h) : Wq p l e R s m args below meth c D G A H0 sg n0 M x cells slots pc lv ((0, b) :: (0, a) :: st) h := by
  intro hC hh hn hlv hst H locs ls hw hS hls
  have ha : R32 a := hst _ (List.mem_cons_of_mem _ List.mem_cons_self)
  have hb : R32 b := hst _ List.mem_cons_self
  exact lv_icmp_gt hC.1 hC.2.1 hd ht (fun z => kt ((ofI_lt hb ha).mp z) hC hh hn hlv (fun q hq => hst q (List.mem_cons_of_mem _ (List.mem_cons_of_mem _ hq))) H locs ls hw hS hls) (fun z => kk (fun y => z ((ofI_lt hb ha).mpr y)) hC hh hn hlv (fun q hq => hst q (List.mem_cons_of_mem _ (List.mem_cons_of_mem _ hq))) H locs ls hw hS hls)
theorem r_icmp_le {a b : Int} {off : Int} {tgt : Nat} (hd : decode M.1 pc = .ok (.if_icmp .le off, 3)) (ht : (pc : Int) + off = (tgt : Int)) (kt : ¬ b < a → Wq p l e R s m args below meth c D G A H0 sg n0 M x cells slots tgt lv st h) (kk : b < a → Wq p l e R s m args below meth c D G A H0 sg n0 M x cells slots (pc + 3) lv st h) : Wq p l e R s m args below meth c D G A H0 sg n0 M x cells slots pc lv ((0, b) :: (0, a) :: st) h := by
  intro hC hh hn hlv hst H locs ls hw hS hls
  have ha : R32 a := hst _ (List.mem_cons_of_mem _ List.mem_cons_self)
  have hb : R32 b := hst _ List.mem_cons_self
  exact lv_icmp_le hC.1 hC.2.1 hd ht (fun z => kt (Int.not_lt.mpr ((ofI_le ha hb).mp z)) hC hh hn hlv (fun q hq => hst q (List.mem_cons_of_mem _ (List.mem_cons_of_mem _ hq))) H locs ls hw hS hls) (fun z => kk (Int.not_le.mp (fun y => z ((ofI_le ha hb).mpr y))) hC hh hn hlv (fun q hq => hst q (List.mem_cons_of_mem _ (List.mem_cons_of_mem _ hq))) H locs ls hw hS hls)
theorem r_icmp_eq {a b : Int} {off : Int} {tgt : Nat} (hd : decode M.1 pc = .ok (.if_icmp .eq off, 3)) (ht : (pc : Int) + off = (tgt : Int)) (kt : a = b → Wq p l e R s m args below meth c D G A H0 sg n0 M x cells slots tgt lv st h) (kk : ¬ (a = b) → Wq p l e R s m args below meth c D G A H0 sg n0 M x cells slots (pc + 3) lv st h) : Wq p l e R s m args below meth c D G A H0 sg n0 M x cells slots pc lv ((0, b) :: (0, a) :: st) h := by
  intro hC hh hn hlv hst H locs ls hw hS hls
  have ha : R32 a := hst _ (List.mem_cons_of_mem _ List.mem_cons_self)
  have hb : R32 b := hst _ List.mem_cons_self
  exact lv_icmp_eq hC.1 hC.2.1 hd ht (fun z => kt ((ofI_eq ha hb).mp z) hC hh hn hlv (fun q hq => hst q (List.mem_cons_of_mem _ (List.mem_cons_of_mem _ hq))) H locs ls hw hS hls) (fun z => kk (fun y => z ((ofI_eq ha hb).mpr y)) hC hh hn hlv (fun q hq => hst q (List.mem_cons_of_mem _ (List.mem_cons_of_mem _ hq))) H locs ls hw hS hls)
theorem r_icmp_ne {a b : Int} {off : Int} {tgt : Nat} (hd : decode M.1 pc = .ok (.if_icmp .ne off, 3)) (ht : (pc : Int) + off = (tgt : Int)) (kt : a ≠ b → Wq p l e R s m args below meth c D G A H0 sg n0 M x cells slots tgt lv st h) (kk : a = b → Wq p l e R s m args below meth c D G A H0 sg n0 M x cells slots (pc + 3) lv st h) : Wq p l e R s m args below meth c D G A H0 sg n0 M x cells slots pc lv ((0, b) :: (0, a) :: st) h := by
  intro hC hh hn hlv hst H locs ls hw hS hls
  have ha : R32 a := hst _ (List.mem_cons_of_mem _ List.mem_cons_self)
  have hb : R32 b := hst _ List.mem_cons_self
  exact lv_icmp_ne hC.1 hC.2.1 hd ht (fun z => kt ((not_congr (ofI_eq ha hb)).mp z) hC hh hn hlv (fun q hq => hst q (List.mem_cons_of_mem _ (List.mem_cons_of_mem _ hq))) H locs ls hw hS hls) (fun z => kk ((ofI_eq ha hb).mp z) hC hh hn hlv (fun q hq => hst q (List.mem_cons_of_mem _ (List.mem_cons_of_mem _ hq))) H locs ls hw hS hls)
theorem r_if_lt {a : Int} {off : Int} {tgt : Nat} (hd : decode M.1 pc = .ok (.ifCond .lt off, 3)) (ht : (pc : Int) + off = (tgt : Int)) (kt : a < 0 → Wq p l e R s m args below meth c D G A H0 sg n0 M x cells slots tgt lv st h) (kk : ¬ (a < 0) → Wq p l e R s m args below meth c D G A H0 sg n0 M x cells slots (pc + 3) lv st h) : Wq p l e R s m args below meth c D G A H0 sg n0 M x cells slots pc lv ((0, a) :: st) h := by
  intro hC hh hn hlv hst H locs ls hw hS hls
  have ha : R32 a := hst _ List.mem_cons_self
  exact lv_if_lt hC.1 hC.2.1 hd ht (fun z => kt ((ofI_lt ha (show R32 0 from by decide)).mp z) hC hh hn hlv (fun q hq => hst q (List.mem_cons_of_mem _ hq)) H locs ls hw hS hls) (fun z => kk (fun y => z ((ofI_lt ha (show R32 0 from by decide)).mpr y)) hC hh hn hlv (fun q hq => hst q (List.mem_cons_of_mem _ hq)) H locs ls hw hS hls)
theorem r_if_ge {a : Int} {off : Int} {tgt : Nat} (hd : decode M.1 pc = .ok (.ifCond .ge off, 3)) (ht : (pc : Int) + off = (tgt : Int)) (kt : ¬ a < 0 → Wq p l e R s m args below meth c D G A H0 sg n0 M x cells slots tgt lv st h) (kk : a < 0 → Wq p l e R s m args below meth c D G A H0 sg n0 M x cells slots (pc + 3) lv st h) : Wq p l e R s m args below meth c D G A H0 sg n0 M x cells slots pc lv ((0, a) :: st) h := by
  intro hC hh hn hlv hst H locs ls hw hS hls
  have ha : R32 a := hst _ List.mem_cons_self
  exact lv_if_ge hC.1 hC.2.1 hd ht (fun z => kt (Int.not_lt.mpr ((ofI_le (show R32 0 from by decide) ha).mp z)) hC hh hn hlv (fun q hq => hst q (List.mem_cons_of_mem _ hq)) H locs ls hw hS hls) (fun z => kk (Int.not_le.mp (fun y => z ((ofI_le (show R32 0 from by decide) ha).mpr y))) hC hh hn hlv (fun q hq => hst q (List.mem_cons_of_mem _ hq)) H locs ls hw hS hls)
theorem r_if_gt {a : Int} {off : Int} {tgt : Nat} (hd : decode M.1 pc = .ok (.ifCond .gt off, 3)) (ht : (pc : Int) + off = (tgt : Int)) (kt : 0 < a → Wq p l e R s m args below meth c D G A H0 sg n0 M x cells slots tgt lv st h) (kk : ¬ (0 < a) → Wq p l e R s m args below meth c D G A H0 sg n0 M x cells slots (pc + 3) lv st h) : Wq p l e R s m args below meth c D G A H0 sg n0 M x cells slots pc lv ((0, a) :: st) h := by
  intro hC hh hn hlv hst H locs ls hw hS hls
  have ha : R32 a := hst _ List.mem_cons_self
  exact lv_if_gt hC.1 hC.2.1 hd ht (fun z => kt ((ofI_lt (show R32 0 from by decide) ha).mp z) hC hh hn hlv (fun q hq => hst q (List.mem_cons_of_mem _ hq)) H locs ls hw hS hls) (fun z => kk (fun y => z ((ofI_lt (show R32 0 from by decide) ha).mpr y)) hC hh hn hlv (fun q hq => hst q (List.mem_cons_of_mem _ hq)) H locs ls hw hS hls)
theorem r_if_le {a : Int} {off : Int} {tgt : Nat} (hd : decode M.1 pc = .ok (.ifCond .le off, 3)) (ht : (pc : Int) + off = (tgt : Int)) (kt : ¬ 0 < a → Wq p l e R s m args below meth c D G A H0 sg n0 M x cells slots tgt lv st h) (kk : 0 < a → Wq p l e R s m args below meth c D G A H0 sg n0 M x cells slots (pc + 3) lv st h) : Wq p l e R s m args below meth c D G A H0 sg n0 M x cells slots pc lv ((0, a) :: st) h := by
  intro hC hh hn hlv hst H locs ls hw hS hls
  have ha : R32 a := hst _ List.mem_cons_self
  exact lv_if_le hC.1 hC.2.1 hd ht (fun z => kt (Int.not_lt.mpr ((ofI_le ha (show R32 0 from by decide)).mp z)) hC hh hn hlv (fun q hq => hst q (List.mem_cons_of_mem _ hq)) H locs ls hw hS hls) (fun z => kk (Int.not_le.mp (fun y => z ((ofI_le ha (show R32 0 from by decide)).mpr y))) hC hh hn hlv (fun q hq => hst q (List.mem_cons_of_mem _ hq)) H locs ls hw hS hls)
theorem r_if_eq {a : Int} {off : Int} {tgt : Nat} (hd : decode M.1 pc = .ok (.ifCond .eq off, 3)) (ht : (pc : Int) + off = (tgt : Int)) (kt : a = 0 → Wq p l e R s m args below meth c D G A H0 sg n0 M x cells slots tgt lv st h) (kk : ¬ (a = 0) → Wq p l e R s m args below meth c D G A H0 sg n0 M x cells slots (pc + 3) lv st h) : Wq p l e R s m args below meth c D G A H0 sg n0 M x cells slots pc lv ((0, a) :: st) h := by
  intro hC hh hn hlv hst H locs ls hw hS hls
  have ha : R32 a := hst _ List.mem_cons_self
  exact lv_if_eq hC.1 hC.2.1 hd ht (fun z => kt ((ofI_eq ha (show R32 0 from by decide)).mp z) hC hh hn hlv (fun q hq => hst q (List.mem_cons_of_mem _ hq)) H locs ls hw hS hls) (fun z => kk (fun y => z ((ofI_eq ha (show R32 0 from by decide)).mpr y)) hC hh hn hlv (fun q hq => hst q (List.mem_cons_of_mem _ hq)) H locs ls hw hS hls)
theorem r_if_ne {a : Int} {off : Int} {tgt : Nat} (hd : decode M.1 pc = .ok (.ifCond .ne off, 3)) (ht : (pc : Int) + off = (tgt : Int)) (kt : a ≠ 0 → Wq p l e R s m args below meth c D G A H0 sg n0 M x cells slots tgt lv st h) (kk : a = 0 → Wq p l e R s m args below meth c D G A H0 sg n0 M x cells slots (pc + 3) lv st h) : Wq p l e R s m args below meth c D G A H0 sg n0 M x cells slots pc lv ((0, a) :: st) h := by
  intro hC hh hn hlv hst H locs ls hw hS hls
  have ha : R32 a := hst _ List.mem_cons_self
  exact lv_if_ne hC.1 hC.2.1 hd ht (fun z => kt ((not_congr (ofI_eq ha (show R32 0 from by decide))).mp z) hC hh hn hlv (fun q hq => hst q (List.mem_cons_of_mem _ hq)) H locs ls hw hS hls) (fun z => kk ((ofI_eq ha (show R32 0 from by decide)).mp z) hC hh hn hlv (fun q hq => hst q (List.mem_cons_of_mem _ hq)) H locs ls hw hS hls)
theorem r_goto {off : Int} {tgt : Nat} (hd : decode M.1 pc = .ok (.goto off, 3)) (ht : (pc : Int) + off = (tgt : Int)) (kk : Wq p l e R s m args below meth c D G A H0 sg n0 M x cells slots tgt lv st h) : Wq p l e R s m args below meth c D G A H0 sg n0 M x cells slots pc lv st h := by
  intro hC hh hn hlv hst H locs ls hw hS hls
  exact lv_goto hC.1 hC.2.1 hd ht (kk hC hh hn hlv hst H locs ls hw hS hls)
theorem r_ifnull {v : vV} (hv : 3 ≤ v.1) {off : Int} {tgt : Nat} (hd : decode M.1 pc = .ok (.ifnull off, 3)) (ht : (pc : Int) + off = (tgt : Int)) (k0 : v.2 < 0 → Wq p l e R s m args below meth c D G A H0 sg n0 M x cells slots tgt lv st h) (kk : 0 ≤ v.2 → Wq p l e R s m args below meth c D G A H0 sg n0 M x cells slots (pc + 3) lv st h) : Wq p l e R s m args below meth c D G A H0 sg n0 M x cells slots pc lv (v :: st) h := by
  obtain ⟨t, y⟩ := v
  intro hC hh hn hlv hst H locs ls hw hS hls
  rw [List.map_cons]
  by_cases z : y < 0
  · have e9 : cv G.1 (t, y) = .null := by
      match t, hv with
      | t + 3, _ => rw [cv_ge, if_pos z]
    rw [e9]
    exact lv_ifnullN hC.1 hC.2.1 hd ht (k0 z hC hh hn hlv (fun q hq => hst q (List.mem_cons_of_mem _ hq)) H locs ls hw hS hls)
  · rw [cv_refn G.1 hv (by omega)]
    exact lv_ifnull hC.1 hC.2.1 hd (kk (by dsimp only; omega) hC hh hn hlv (fun q hq => hst q (List.mem_cons_of_mem _ hq)) H locs ls hw hS hls)
theorem r_ifnonnull {v : vV} (hv : 3 ≤ v.1) {off : Int} {tgt : Nat} (hd : decode M.1 pc = .ok (.ifnonnull off, 3)) (ht : (pc : Int) + off = (tgt : Int)) (k0 : v.2 < 0 → Wq p l e R s m args below meth c D G A H0 sg n0 M x cells slots (pc + 3) lv st h) (kk : 0 ≤ v.2 → Wq p l e R s m args below meth c D G A H0 sg n0 M x cells slots tgt lv st h) : Wq p l e R s m args below meth c D G A H0 sg n0 M x cells slots pc lv (v :: st) h := by
  obtain ⟨t, y⟩ := v
  intro hC hh hn hlv hst H locs ls hw hS hls
  rw [List.map_cons]
  by_cases z : y < 0
  · have e9 : cv G.1 (t, y) = .null := by
      match t, hv with
      | t + 3, _ => rw [cv_ge, if_pos z]
    rw [e9]
    exact lv_ifnonnullN hC.1 hC.2.1 hd (k0 z hC hh hn hlv (fun q hq => hst q (List.mem_cons_of_mem _ hq)) H locs ls hw hS hls)
  · rw [cv_refn G.1 hv (by omega)]
    exact lv_ifnonnull hC.1 hC.2.1 hd ht (kk (by dsimp only; omega) hC hh hn hlv (fun q hq => hst q (List.mem_cons_of_mem _ hq)) H locs ls hw hS hls)
theorem r_tableOut {dflt lo hi : Int} {offs : Array Int} {len : Nat} {a : Int} {tgt : Nat} (hd : decode M.1 pc = .ok (.tableswitch dflt lo hi offs, len)) (h1 : a < lo ∨ hi < a) (ht : (pc : Int) + dflt = (tgt : Int)) (kk : Wq p l e R s m args below meth c D G A H0 sg n0 M x cells slots tgt lv st h) : Wq p l e R s m args below meth c D G A H0 sg n0 M x cells slots pc lv ((0, a) :: st) h := by
  intro hC hh hn hlv hst H locs ls hw hS hls
  have ha : R32 a := hst _ List.mem_cons_self
  exact lv_tableOut hC.1 hC.2.1 hd (by rw [ha.toI]; exact h1) ht (kk hC hh hn hlv (fun q hq => hst q (List.mem_cons_of_mem _ hq)) H locs ls hw hS hls)
theorem r_tableIn {dflt lo hi : Int} {offs : Array Int} {len : Nat} {a off : Int} {tgt : Nat} (hd : decode M.1 pc = .ok (.tableswitch dflt lo hi offs, len)) (h1 : lo ≤ a) (h2 : a ≤ hi) (ho : offs[(a - lo).toNat]? = some off) (ht : (pc : Int) + off = (tgt : Int)) (kk : Wq p l e R s m args below meth c D G A H0 sg n0 M x cells slots tgt lv st h) : Wq p l e R s m args below meth c D G A H0 sg n0 M x cells slots pc lv ((0, a) :: st) h := by
  intro hC hh hn hlv hst H locs ls hw hS hls
  have ha : R32 a := hst _ List.mem_cons_self
  exact lv_tableIn hC.1 hC.2.1 hd (by rw [ha.toI]; omega) (by rw [ha.toI]; omega) (by rw [ha.toI]; exact ho) ht (kk hC hh hn hlv (fun q hq => hst q (List.mem_cons_of_mem _ hq)) H locs ls hw hS hls)
theorem r_lookup {dflt : Int} {ps : Array (Int × Int)} {len : Nat} {a off : Int} {tgt : Nat} (hd : decode M.1 pc = .ok (.lookupswitch dflt ps, len)) (hp : (ps.toList.zip (ps.toList.drop 1)).all (fun (a, next) => a.1 < next.1) = true) (ho : Op.lookupswitch.offset ps.toList dflt a = off) (ht : (pc : Int) + off = (tgt : Int)) (kk : Wq p l e R s m args below meth c D G A H0 sg n0 M x cells slots tgt lv st h) : Wq p l e R s m args below meth c D G A H0 sg n0 M x cells slots pc lv ((0, a) :: st) h := by
  intro hC hh hn hlv hst H locs ls hw hS hls
  have ha : R32 a := hst _ List.mem_cons_self
  exact lv_lookup hC.1 hC.2.1 hd hp (by rw [ha.toI]; exact ho) ht (kk hC hh hn hlv (fun q hq => hst q (List.mem_cons_of_mem _ hq)) H locs ls hw hS hls)
theorem r_null {t : Nat} (ht : 100 ≤ t) (hd : decode M.1 pc = .ok (.aconst_null, 1)) (kk : Wq p l e R s m args below meth c D G A H0 sg n0 M x cells slots (pc + 1) lv ((t, -1) :: st) h) : Wq p l e R s m args below meth c D G A H0 sg n0 M x cells slots pc lv st h := by
  intro hC hh hn hlv hst H locs ls hw hS hls
  have hT9 : hT (nn h) t (-1) := by
    match t, ht with
    | t + 3, ht => exact Or.inl ⟨ht, rfl⟩
  have k2 := kk hC hh hn hlv (stc (v := (t, -1)) hT9 hst) H locs ls hw hS hls
  rw [List.map_cons, show cv G.1 (t, -1) = .null from by
    match t, ht with
    | t + 3, _ => rfl] at k2
  exact lv_null hC.1 hC.2.1 hd k2
end CORE3
