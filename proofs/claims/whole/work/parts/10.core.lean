/-! THE TEXT CONSTANT -/
def sget (j : Int) : Option Int := if 0 ≤ j ∧ j < 152 then some (kBy.getD j.toNat 0).toInt else none
def i2cD (a : Int) : Int := w32 (((Int32.ofInt a).toUInt32 % 65536).toInt32).toInt
theorem kBy_ok : ∀ j : Fin 152, R32 (kBy.getD j.val 0).toInt ∧ narrow .char (.int (Int32.ofInt (i2cD (iadD (kBy.getD j.val 0).toInt 255)))) = .int (Int32.ofInt (i2cD (iadD (kBy.getD j.val 0).toInt 255))) ∧ i2cD (iadD (kBy.getD j.val 0).toInt 255) = (kBy.getD j.val 0).toInt := by decide +kernel
theorem sget_some {j v : Int} (hg : sget j = some v) : 0 ≤ j ∧ j < 152 ∧ v = (kBy.getD j.toNat 0).toInt := by
  unfold sget at hg
  split at hg
  · rename_i z; cases hg; exact ⟨z.1, z.2, rfl⟩
  · cases hg
theorem sget_ok {j v : Int} (hg : sget j = some v) : R32 v ∧ narrow .char (.int (Int32.ofInt (i2cD (iadD v 255)))) = .int (Int32.ofInt (i2cD (iadD v 255))) ∧ i2cD (iadD v 255) = v := by
  obtain ⟨h0, h1, rfl⟩ := sget_some hg
  exact kBy_ok ⟨j.toNat, by omega⟩
theorem kd_lt (k : Nat) : kd k < 60 := by
  have h9 : ∀ v ∈ lay, v < 60 := by decide +kernel
  unfold kd
  rw [List.getD_eq_getElem?_getD]
  cases hk : lay[k]? with
  | none => decide
  | some v => exact h9 v (List.mem_of_getElem? hk)
theorem h90 {n o : Int} (h : hT n 90 o) : o = 1000 := by
  rcases hT_ref (by omega) h with z | z | z
  · omega
  · have := kd_lt o.toNat; omega
  · omega
theorem h91 {n o : Int} (h : hT n 91 o) : o = 1001 := by
  rcases hT_ref (by omega) h with z | z | z
  · omega
  · have := kd_lt o.toNat; omega
  · omega
section CORE10
variable {p : Program} {l : Launch} {e : Env} {R : Room} {s : State} {m : MethodId} {args : Array Value} {below : List Frame} {meth : Method} {c : Code} {D : va_G} {G : gG} {A : Nat → Prop} {H0 : Heap} {sg : Bool} {n0 : Int} {M : mM} {x : Option vV × hH} {cells slots : Nat} {pc : Nat} {lv : List (Nat × vV)} {st : List vV} {h : hH}
theorem sk_in (hC : cxOk p R s m args meth c D G A H0 M) : skF G A s s.heap := hC.2.2.2.2.2.2.2.2.2.2.2.2.2.2.narrow (fun q z => by
  have h1 := hC.2.2.2.2.2.2.2.2.2.2.2.2.2.1 q z
  rw [hC.2.2.2.2.2.2.2.2.2.2.2.2.1] at h1
  exact h1)
theorem sk_S (hC : cxOk p R s m args meth c D G A H0 M) {H : Heap} {locs : List Loc} (hS : va_S A H0 H locs) : va_S A s.heap H locs := by
  rw [hC.2.2.2.2.2.2.2.2.2.2.2.2.1] at hS
  exact hS
theorem hT90 {n : Int} : hT n 90 1000 := Or.inr (Or.inr ⟨by decide, by decide, by decide⟩)
theorem hT91 {n : Int} : hT n 91 1001 := Or.inr (Or.inr ⟨by decide, by decide, by decide⟩)
theorem hT92 {n : Int} : hT n 92 1002 := Or.inr (Or.inr ⟨by decide, by decide, by decide⟩)
theorem hT192 {n : Int} : hT n 192 (-1) := Or.inl ⟨by decide, rfl⟩
theorem r_ldcS (hd : decode M.1 pc = .ok (.ldc 88, 2)) (ho : M.2.2.1 = RX9) (kk : Wq p l e R s m args below meth c D G A H0 sg n0 M x cells slots (pc + 2) lv ((90, 1000) :: st) h) : Wq p l e R s m args below meth c D G A H0 sg n0 M x cells slots pc lv st h := by
  intro hC hh hn hlv hst H locs ls hw hS hls
  have hown := hC.2.2.2.1
  rw [ho] at hown
  exact va_ldcS hC.1 hC.2.1 hown (sk_in hC).1 hd (kk hC hh hn hlv (stc (v := (90, 1000)) hT90 hst) H locs ls hw hS hls)
theorem r_getSv {i : Nat} {o : Int} (hd : decode M.1 pc = .ok (.getfield i, 3)) (w1 : Cond.fieldLink M.2.2.1 i "java/lang/String" "value" "[B" ∈ wsL_law) (kk : Wq p l e R s m args below meth c D G A H0 sg n0 M x cells slots (pc + 3) lv ((91, 1001) :: st) h) : Wq p l e R s m args below meth c D G A H0 sg n0 M x cells slots pc lv ((90, o) :: st) h := by
  intro hC hh hn hlv hst H locs ls hw hS hls
  have ho := h90 (hst _ List.mem_cons_self)
  dsimp only at ho
  subst ho
  exact vk_getf hC.1 hC.2.1 ((sk_in hC).2.1.1 0 (by decide)).2.2.1 (sk_S hC hS) hC.2.2.2.1 (hC.2.2.2.2.2.2.2.2.1 _ w1) (fun _ h9 => h9) hd (kk hC hh hn hlv (stc (v := (91, 1001)) hT91 (fun q hq => hst q (List.mem_cons_of_mem _ hq))) H locs ls hw hS hls)
theorem r_getSc {i : Nat} {o : Int} (hd : decode M.1 pc = .ok (.getfield i, 3)) (w1 : Cond.fieldLink M.2.2.1 i "java/lang/String" "coder" "B" ∈ wsL_law) (kk : Wq p l e R s m args below meth c D G A H0 sg n0 M x cells slots (pc + 3) lv ((0, 0) :: st) h) : Wq p l e R s m args below meth c D G A H0 sg n0 M x cells slots pc lv ((90, o) :: st) h := by
  intro hC hh hn hlv hst H locs ls hw hS hls
  have ho := h90 (hst _ List.mem_cons_self)
  dsimp only at ho
  subst ho
  exact vk_getf hC.1 hC.2.1 ((sk_in hC).2.1.1 0 (by decide)).2.1 (sk_S hC hS) hC.2.2.2.1 (hC.2.2.2.2.2.2.2.2.1 _ w1) (fun _ h9 => h9) hd (kk hC hh hn hlv (stc (v := (0, 0)) (by show R32 0; decide) (fun q hq => hst q (List.mem_cons_of_mem _ hq))) H locs ls hw hS hls)
theorem r_alenS {o : Int} (hd : decode M.1 pc = .ok (.arraylength, 1)) (kk : Wq p l e R s m args below meth c D G A H0 sg n0 M x cells slots (pc + 1) lv ((0, 152) :: st) h) : Wq p l e R s m args below meth c D G A H0 sg n0 M x cells slots pc lv ((91, o) :: st) h := by
  intro hC hh hn hlv hst H locs ls hw hS hls
  have ho := h91 (hst _ List.mem_cons_self)
  dsimp only at ho
  subst ho
  exact va_tlen hC.1 hC.2.1 ((sk_in hC).2.1.1 0 (by decide)).2.2.2 (sk_S hC hS) rfl hd (kk hC hh hn hlv (stc (v := (0, 152)) (by show R32 152; decide) (fun q hq => hst q (List.mem_cons_of_mem _ hq))) H locs ls hw hS hls)
theorem r_baldS {j v o : Int} (hd : decode M.1 pc = .ok (.baload, 1)) (hg : sget j = some v) (kk : Wq p l e R s m args below meth c D G A H0 sg n0 M x cells slots (pc + 1) lv ((0, v) :: st) h) : Wq p l e R s m args below meth c D G A H0 sg n0 M x cells slots pc lv ((0, j) :: (91, o) :: st) h := by
  intro hC hh hn hlv hst H locs ls hw hS hls
  have ho := h91 (hst _ (List.mem_cons_of_mem _ List.mem_cons_self))
  dsimp only at ho
  subst ho
  obtain ⟨hj0, hj1, hv⟩ := sget_some hg
  have hj : R32 j := hst _ List.mem_cons_self
  obtain ⟨hin, hcl⟩ := rIn hj hj0 hj1
  refine va_tb hC.1 hC.2.1 ((sk_in hC).2.1.1 0 (by decide)).2.2.2 (sk_S hC hS) hin (v := cv G.1 (0, v)) ?_ hd (kk hC hh hn hlv (stc (v := (0, v)) (sget_ok hg).1 (fun q hq => hst q (List.mem_cons_of_mem _ (List.mem_cons_of_mem _ hq)))) H locs ls hw hS hls)
  rw [hcl, hv]
  show Value.int _ = Value.int (Int32.ofInt _)
  rw [Int32.ofInt_toInt]
  rfl
theorem r_gstC {i : Nat} (hd : decode M.1 pc = .ok (.getstatic i, 3)) (w1 : Cond.fieldLink M.2.2.1 i "java/lang/String" "COMPACT_STRINGS" "Z" ∈ wsL_law) (kk : Wq p l e R s m args below meth c D G A H0 sg n0 M x cells slots (pc + 3) lv ((0, 1) :: st) h) : Wq p l e R s m args below meth c D G A H0 sg n0 M x cells slots pc lv st h := by
  intro hC hh hn hlv hst H locs ls hw hS hls
  exact va_gets hC.1 hC.2.1 (sk_in hC).2.2.1 (sk_S hC hS) hC.2.2.2.1 (hC.2.2.2.2.2.2.2.2.1 _ w1) (fun _ h9 => h9) hd (kk hC hh hn hlv (stc (v := (0, 1)) (by show R32 1; decide) hst) H locs ls hw hS hls)
theorem r_gstF {i : Nat} (hd : decode M.1 pc = .ok (.getstatic i, 3)) (w1 : Cond.fieldLink M.2.2.1 i "jdk/internal/util/Preconditions" "SIOOBE_FORMATTER" "Ljava/util/function/BiFunction;" ∈ wsL_law) (kk : Wq p l e R s m args below meth c D G A H0 sg n0 M x cells slots (pc + 3) lv ((92, 1002) :: st) h) (k0 : Wq p l e R s m args below meth c D G A H0 sg n0 M x cells slots (pc + 3) lv ((192, -1) :: st) h) : Wq p l e R s m args below meth c D G A H0 sg n0 M x cells slots pc lv st h := by
  intro hC hh hn hlv hst H locs ls hw hS hls
  rcases (sk_in hC).2.2.2 with hz | hz
  · exact va_gets hC.1 hC.2.1 hz (sk_S hC hS) hC.2.2.2.1 (hC.2.2.2.2.2.2.2.2.1 _ w1) (fun _ h9 => h9) hd (kk hC hh hn hlv (stc (v := (92, 1002)) hT92 hst) H locs ls hw hS hls)
  · exact va_gets hC.1 hC.2.1 hz (sk_S hC hS) hC.2.2.2.1 (hC.2.2.2.2.2.2.2.2.1 _ w1) (fun _ h9 => h9) hd (k0 hC hh hn hlv (stc (v := (192, -1)) hT192 hst) H locs ls hw hS hls)
theorem r_i2c {a : Int} (hd : decode M.1 pc = .ok (.i2c, 1)) (kk : Wq p l e R s m args below meth c D G A H0 sg n0 M x cells slots (pc + 1) lv ((0, i2cD a) :: st) h) : Wq p l e R s m args below meth c D G A H0 sg n0 M x cells slots pc lv ((0, a) :: st) h := by
  intro hC hh hn hlv hst H locs ls hw hS hls
  have k2 := kk hC hh hn hlv (stc (v := (0, i2cD a)) (R32_w _) (fun q hq => hst q (List.mem_cons_of_mem _ hq))) H locs ls hw hS hls
  rw [List.map_cons, show cv G.1 (0, i2cD a) = .int ((Int32.ofInt a).toUInt32 % 65536).toInt32 from by simp only [cv, i2cD, w32_ofInt, Int32.ofInt_toInt]] at k2
  exact lv_i2c hC.1 hC.2.1 hd rfl k2
theorem r_retG {y : Int} {ty : FieldType} (hd : decode M.1 pc = .ok (.ireturn, 1)) (hr : M.2.2.2.1 = some ty) (hn9 : narrow ty (.int (Int32.ofInt y)) = .int (Int32.ofInt y)) (hx : x = (some (0, y), h)) (hcs : cells = M.2.2.2.2.2.2.2.1 ∧ slots = M.2.2.2.2.2.2.2.2) : Wq p l e R s m args below meth c D G A H0 sg n0 M x cells slots pc lv [(0, y)] h := by
  intro hC hh hn hlv hst H locs ls hw hS hls
  obtain ⟨rfl, rfl⟩ := hcs
  have hv := hst _ List.mem_cons_self
  exact W.zret hC.1 hC.2.1 (hC.2.2.2.2.1.trans hr) hn9 (fun t ht _ => q_ret (Z := some (0, y)) hx hC hh hn (fun _ h => by cases h; exact hv) hw hS t ht) hS.2.2 hd hC.2.2.2.2.2.2.2.1
/-- a method of the text constant -/
theorem k_T {i n : Nat} {y : MethodName} {My : mM} {as rest : List vV} {o : Int} {X : Option vV × hH} (hM : Ctr l D G sg y My ((90, o) :: as) h X) (hI : cI y My n) (hn : n = as.length) (hcl : y.cls = "java/lang/String") (w1 : Cond.methodLink M.2.2.1 i y ∈ wsL_law)
    (hR9 : (Nat.ble (My.2.2.2.2.2.1 + 1) M.2.2.2.2.2.1 && Nat.ble (8 + (My.2.1 + 11) + My.2.2.2.2.2.2.1) M.2.2.2.2.2.2.1 && Nat.ble (cells + My.2.2.2.2.2.2.2.1) M.2.2.2.2.2.2.2.1 && Nat.ble (slots + My.2.2.2.2.2.2.2.2) M.2.2.2.2.2.2.2.2 && Nat.ble (szA rest) 8) = true)
    (hd : decode M.1 pc = .ok (.invokevirtual i, 3)) (hrev : as.reverse ++ (90, o) :: rest = st)
    (kk : Wq p l e R s m args below meth c D G A H0 sg n0 M x (cells + My.2.2.2.2.2.2.2.1) (slots + My.2.2.2.2.2.2.2.2) (pc + 3) lv (X.1.toList ++ rest) X.2) : Wq p l e R s m args below meth c D G A H0 sg n0 M x cells slots pc lv st h := by
  subst hn
  simp only [Bool.and_eq_true, Nat.ble_eq] at hR9
  subst hrev
  intro hC hh hn hlv hst H locs ls hw hS hls
  have ho := h90 (hst (90, o) (List.mem_append_right _ List.mem_cons_self))
  dsimp only at ho
  subst ho
  have hts := hC.2.2.2.2.2.2.2.2.1
  have hRR := hC.2.2.2.2.2.2.1
  have hK := hC.2.2.2.2.2.2.2.2.2.2.1
  have hM9 := hM hh (fun v hv => by
    rcases List.mem_cons.mp hv with e9 | hv
    · rw [e9]; exact hT90
    · exact hst v (List.mem_append_left _ (List.mem_reverse.mpr hv))) H.size
  refine call_go (av := (Value.ref (G.1 1000) :: as.map (cv G.1)).toArray) (as := as) (rest := rest) hC hlv (fun q hq => hst q (List.mem_append_right _ (List.mem_cons_of_mem _ hq))) hn hw hS hls ?_ kk
  have hrc := vk_recv (sk_in hC).2.1 (i := 0) (by decide) (sk_S hC hS)
  refine va_runV (y := y) (C := y.cls) (own := M.2.2.1) (index := i) (bytes := My.1) (maxL := My.2.1) (ret := My.2.2.2.1) (ws := wsM y My) (rm := rmM My) (Ts := wsL_law) (cc := M.1) (nL := M.2.1) (n := as.length) (b := G.1 1000) (As := as.map (cv G.1)) ⟨hC.1, hC.2.1, hC.2.2.1, hC.2.2.2.1, hts⟩ hM9
    ⟨callB_of as.length hts (goodM hI.2.2.2.1) rfl rfl rfl (hts _ hI.2.2.1) (hts _ w1) hI.2.2.2.2 (by rw [hRR]; exact ⟨hR9.1.1.1.1, hR9.1.1.1.2⟩), hts _ hI.1, hts _ hI.2.1⟩
    ⟨pc_blind, by rw [hcl]; exact hrc, fun U hU hW => ⟨rfl, by rw [hU], by rw [hU]; exact hw.1, va_K.moved hW.alike hK, hw.2.weaken (fun _ _ _ _ => trivial), hC.2.2.2.2.2.2.2.2.2.1.warm hW, by rw [hU]; exact (hC.2.2.2.2.2.2.2.2.2.2.2.2.1 ▸ hC.2.2.2.2.2.2.2.2.2.2.2.2.2.2 : skOk G s H0).go hC.2.2.2.2.2.2.2.2.2.2.2.2.2.1 hS hW⟩⟩ rfl (by simp) hls.1 ?_ (lv_room (by rw [cat_sum]; exact hR9.2)) hd (by rw [hRR]; exact ⟨hR9.1.1.2, hR9.1.2⟩)
  show (as.reverse ++ (90, 1000) :: rest).map (cv G.1) = _
  rw [List.map_append, List.map_reverse, List.map_cons]
  rfl
theorem r_ldcw {i : Nat} {v : Int} {z : Int32} (hd : decode M.1 pc = .ok (.ldc_w i, 3)) (hz : Int32.ofInt v = z ∧ R32 v) (hw : Cond.constant M.2.2.1 i z ∈ wsL_law) (kk : Wq p l e R s m args below meth c D G A H0 sg n0 M x cells slots (pc + 3) lv ((0, v) :: st) h) : Wq p l e R s m args below meth c D G A H0 sg n0 M x cells slots pc lv st h :=
  r_pure (v := (0, v)) hz.2 (fun hx hb ho hts _ k => lv_ldcw hx hb ho (hts _ (by rw [← hz.1] at hw; exact hw)) hd k) kk
theorem hRR {a b c d e f g h i : Nat} (h1 : a ≤ b) (h2 : c ≤ d) (h3 : e ≤ f) (h4 : g ≤ h) (h5 : i ≤ 8) : (Nat.ble a b && Nat.ble c d && Nat.ble e f && Nat.ble g h && Nat.ble i 8) = true := by
  simp only [Bool.and_eq_true, Nat.ble_eq]
  exact ⟨⟨⟨⟨h1, h2⟩, h3⟩, h4⟩, h5⟩
end CORE10
