/-! FIELDS, ROWS, CALLS, RETURNS -/
theorem cel_arr {G : gG} {T : Nat} {f : Int → Int} (hT9 : T = 50 ∨ T = 52 ∨ T = 53) : cel G T f = .inl (G.2 T, (f (-1)).toNat, .inl (fun j => Int32.ofInt (f j))) := by rw [cel, if_pos hT9]
theorem cel_lon {G : gG} {f : Int → Int} : cel G 51 f = .inl (G.2 51, (f (-1)).toNat, .inr (.inl (fun j => Int64.ofInt (f j)))) := rfl
theorem cel_row {G : gG} {T : Nat} {f : Int → Int} (hT9 : T = 54 ∨ T = 55) : cel G T f = .inl (G.2 T, (f (-1)).toNat, .inr (.inr (.inr (.inr (fun j => if f j < 0 then none else some (G.1 (f j).toNat)))))) := by
  rcases hT9 with rfl | rfl <;> rfl
theorem cel_obj {G : gG} {ci : Nat} {f : Int → Int} (hc : ci < 13) : cel G (10 + ci) f = .inr (ci, (List.range (nf ci)).map (fun j => cv G.1 (fT true ci j, f j))) := by
  unfold cel
  rw [if_neg (by omega), if_neg (by omega), if_neg (by omega), Nat.add_sub_cancel_left]
section CORE4
variable {p : Program} {l : Launch} {e : Env} {R : Room} {s : State} {m : MethodId} {args : Array Value} {below : List Frame} {meth : Method} {c : Code} {D : va_G} {G : gG} {A : Nat → Prop} {H0 : Heap} {sg : Bool} {n0 : Int} {M : mM} {x : Option vV × hH} {cells slots : Nat} {pc : Nat} {lv : List (Nat × vV)} {st : List vV} {h : hH}
/-- what is known of a cell by its kind -/
theorem kOk {n : Int} {t : Nat} {k : Int} (ht : 10 ≤ t) (ht2 : t < 90) (hk : hT n t k) : 0 ≤ k ∧ k < n ∧ kd k.toNat = t := by
  rcases hT_ref (by omega) hk with h | h | h
  · omega
  · rw [Nat.mod_eq_of_lt (by omega)] at h; exact h
  · omega
theorem hOk.at {k : Int} (hh : hOk sg h) (h0 : 0 ≤ k) (h1 : k < nn h) : cOk sg (nn h) (kd k.toNat) (h k) := by
  have h2 : ((k.toNat : Nat) : Int) = k := by omega
  have := hh.2.2 k.toNat (by rw [h2]; exact h1)
  rw [h2] at this
  exact this
theorem hOk.fld {k : Int} {ci j : Nat} (hh : hOk sg h) (hc : ci < 13) (hj : j < nf ci) (hk : hT (nn h) (10 + ci) k) : hT (nn h) (fT sg ci j) (h k j) := by
  obtain ⟨h0, h1, h2⟩ := kOk (by omega) (by omega) hk
  have := hh.at h0 h1
  rw [h2] at this
  unfold cOk at this
  rw [if_neg (by omega), Nat.add_sub_cancel_left] at this
  exact this j hj
theorem hOk.len {k : Int} {t : Nat} (hh : hOk sg h) (ht : 50 ≤ t) (ht2 : t < 90) (hk : hT (nn h) t k) : 0 ≤ h k (-1) ∧ h k (-1) < 2147483648 ∧ ∀ j : Int, 0 ≤ j → j < h k (-1) → hT (nn h) (eT t) (h k j) := by
  obtain ⟨h0, h1, h2⟩ := kOk (by omega) (by omega) hk
  have := hh.at h0 h1
  rw [h2] at this
  unfold cOk at this
  rw [if_pos ht] at this
  exact this
theorem hOk.put {k j v : Int} (hh : hOk sg h) (h0 : 0 ≤ k) (hj : j ≠ -1) (hv : k < nn h → cOk sg (nn h) (kd k.toNat) (h k) → cOk sg (nn h) (kd k.toNat) (hup h k j v k)) : hOk sg (hup h k j v) := by
  have hn := nn_hup (h := h) (j := j) (v := v) h0
  refine ⟨by rw [hn]; exact hh.1, by rw [hn]; exact hh.2.1, fun i hi => ?_⟩
  rw [hn] at hi ⊢
  by_cases hik : (i : Int) = k
  · subst hik
    exact hv hi (hh.2.2 i hi)
  · have hc : hup h k j v (i : Int) = h (i : Int) := by
      funext b
      simp [hup, hik]
    rw [hc]
    exact hh.2.2 i hi
theorem hOk.putF {k v : Int} {ci j : Nat} (hh : hOk sg h) (hc : ci < 13) (hk : hT (nn h) (10 + ci) k) (hv : hT (nn h) (fT sg ci j) v) : hOk sg (hup h k j v) := by
  obtain ⟨h0, h1, h2⟩ := kOk (by omega) (by omega) hk
  refine hh.put h0 (by omega) (fun _ hz => ?_)
  rw [h2] at hz ⊢
  unfold cOk at hz ⊢
  rw [if_neg (by omega), Nat.add_sub_cancel_left] at hz ⊢
  intro i hi
  by_cases hij : i = j
  · subst hij
    simp only [hup, and_self, if_true]
    exact hv
  · have : hup h k j v k (i : Int) = h k (i : Int) := by simp [hup]; omega
    rw [this]
    exact hz i hi
theorem hOk.putA {k j v : Int} {t : Nat} (hh : hOk sg h) (ht : 50 ≤ t) (ht2 : t < 90) (hk : hT (nn h) t k) (hj : 0 ≤ j) (hv : hT (nn h) (eT t) v) : hOk sg (hup h k j v) := by
  obtain ⟨h0, h1, h2⟩ := kOk (by omega) (by omega) hk
  refine hh.put h0 (by omega) (fun _ hz => ?_)
  rw [h2] at hz ⊢
  unfold cOk at hz ⊢
  rw [if_pos ht] at hz ⊢
  have hl : hup h k j v k (-1) = h k (-1) := by simp [hup]; omega
  rw [hl]
  refine ⟨hz.1, hz.2.1, fun i hi hi2 => ?_⟩
  by_cases hij : i = j
  · subst hij
    simp only [hup, and_self, if_true]
    exact hv
  · have : hup h k j v k i = h k i := by simp [hup]; omega
    rw [this]
    exact hz.2.2 i hi hi2
theorem rIn {j : Int} {n : Int} (hj : R32 j) (h0 : 0 ≤ j) (h1 : j < n) : vp_in (Int32.ofInt j) n.toNat ∧ (Int32.ofInt j).toNatClampNeg = j.toNat := by
  have e : (Int32.ofInt j).toNatClampNeg = j.toNat := by
    rw [Int32.toNatClampNeg, hj.toI]
  refine ⟨?_, e⟩
  unfold vp_in
  rw [e, show (0 : Int32) = Int32.ofInt 0 from rfl, ofI_lt hj (by decide)]
  omega
/-- a field is read -/
theorem r_get (ci k : Nat) {T : u_T} {C : String} {N i : Nat} {ref : String} {o : Int} {w : vV} (hc : vwCl[ci]? = some (C, T, N)) (hci : ci < 13) (hN : nf ci = N) (hk : k < N) (hin : ∀ w ∈ u_ws C T N, w ∈ wsL_law) (hlink : Cond.fieldLink M.2.2.1 i ref (T k).2.1 (T k).2.2.1 ∈ wsL_law) (hsame : (T k).1 = ref)
    (hd : decode M.1 pc = .ok (.getfield i, 3)) (hw9 : (fT sg ci k, h o k) = w) (kk : Wq p l e R s m args below meth c D G A H0 sg n0 M x cells slots (pc + 3) lv (w :: st) h) : Wq p l e R s m args below meth c D G A H0 sg n0 M x cells slots pc lv ((10 + ci, o) :: st) h := by
  subst hw9
  intro hC hh hn hlv hst H locs ls hw hS hls
  have ho : hT (nn h) (10 + ci) o := hst _ List.mem_cons_self
  obtain ⟨h0, h1, h2⟩ := kOk (by omega) (by omega) ho
  have k2 := kk hC hh hn hlv (stc (v := (fT sg ci k, h o k)) (hh.fld hci (by rw [hN]; exact hk) ho) (fun q hq => hst q (List.mem_cons_of_mem _ hq))) H locs ls hw hS hls
  have hx := hC.2.2.2.2.2.2.2.2.1
  rw [List.map_cons, cv_refn G.1 (by omega) h0]
  refine va_get (D := D) (ci := ci) (fs := (List.range (nf ci)).map (fun j => cv G.1 (fT true ci j, h o j))) (C := C) (T := T) (N := N) hC.1 hC.2.1 hx hin hC.2.2.2.1 hC.2.2.2.2.2.2.2.2.2.2.1 hw.1 o.toNat (by rw [wld_get h0 h1, h2, cel_obj hci]) hc k hk (hx _ hlink) (fun _ h9 => by rw [← hsame]; exact h9) (v := cv G.1 (fT sg ci k, h o k)) ?_ hd k2
  rw [List.getElem?_map, List.getElem?_range (by rw [hN]; exact hk), Option.map_some]
  congr 1
  cases sg with
  | true => rfl
  | false =>
    simp only [fT]
    generalize (fTl.getD ci []).getD k 0 = t
    rcases Nat.lt_or_ge t 10 with z | z
    · rw [if_neg (by simp), if_neg (by omega)]
    · rw [if_neg (by simp), if_pos ⟨trivial, z⟩]
      match t, z with
      | t + 3, _ => rfl
/-- a field is written -/
theorem nar_ok {ty : FieldType} {t : Nat} {v : Int} {n : Int} {ad : Nat → Nat} (hty : (t = 0 ∧ ty = .int) ∨ (t = 1 ∧ ty = .long) ∨ (t = 2 ∧ ty = .boolean) ∨ (3 ≤ t ∧ ((∃ z, ty = .object z) ∨ ∃ z, ty = .array z))) (hv : hT n t v) : narrow ty (cv ad (t, v)) = cv ad (t, v) ∧ fits ty (cv ad (t, v)) = true := by
  rcases hty with ⟨rfl, rfl⟩ | ⟨rfl, rfl⟩ | ⟨rfl, rfl⟩ | ⟨ht, hty⟩
  · exact ⟨rfl, rfl⟩
  · exact ⟨rfl, rfl⟩
  · rcases hv with rfl | rfl
    · exact ⟨rfl, rfl⟩
    · exact ⟨rfl, rfl⟩
  · rcases cv_ref ad (v := (t, v)) ht with e | e <;> rw [e] <;> rcases hty with ⟨z, rfl⟩ | ⟨z, rfl⟩ <;> exact ⟨rfl, rfl⟩
theorem hT_wk {n : Int} {ci j : Nat} {t : Nat} {v : Int} (ht90 : t < 90) (he : fT true ci j = t) (hv : hT n t v) : hT n (fT sg ci j) v := by
  cases sg with
  | true => rw [he]; exact hv
  | false =>
    have he' : (fTl.getD ci []).getD j 0 = t := by rw [← he]; simp [fT]
    simp only [fT, he']
    by_cases z : 10 ≤ t
    · rw [if_pos ⟨trivial, z⟩]
      match t, z with
      | t + 3, z =>
        rcases hT_ref (by omega) hv with h | h | h
        · exact Or.inl ⟨by omega, h.2⟩
        · exact Or.inr (Or.inl ⟨h.1, h.2.1, by rw [h.2.2]; omega⟩)
        · omega
    · rw [if_neg (by omega)]; exact hv
theorem fld_set {ad : Nat → Nat} {ci k : Nat} {o v : Int} (hk : k < nf ci) : ((List.range (nf ci)).map (fun j => cv ad (fT true ci j, h o j))).set k (cv ad (fT true ci k, v)) = (List.range (nf ci)).map (fun j => cv ad (fT true ci j, hup h o k v o j)) := by
  apply List.ext_getElem?
  intro i
  by_cases hi : i = k
  · subst hi
    rw [List.getElem?_set_self (by simp; exact hk), List.getElem?_map, List.getElem?_range hk]
    simp [hup]
  · rw [List.getElem?_set_ne (Ne.symm hi), List.getElem?_map, List.getElem?_map]
    cases hr : (List.range (nf ci))[i]? with
    | none => rfl
    | some a =>
      have ha : a = i := by
        have := (List.getElem?_eq_some_iff.mp hr).2
        simpa using this.symm
      subst ha
      simp only [Option.map_some]
      have : hup h o k v o (a : Int) = h o (a : Int) := by simp [hup]; omega
      rw [this]
theorem r_put (ci k : Nat) {T : u_T} {C : String} {N i t : Nat} {ref : String} {o v : Int} {ty : FieldType} (ty0 : Nat → FieldType) (hty0 : ∀ k, k < N → parseFieldDescriptor (T k).2.2.1 = some (ty0 k)) (hnm : ∀ a, a < N → ∀ b, b < N → a ≠ b → (T a).2.1 ≠ (T b).2.1) (hc : vwCl[ci]? = some (C, T, N)) (hci : ci < 13) (hN : nf ci = N) (hk : k < N) (hin : ∀ w ∈ u_ws C T N, w ∈ wsL_law) (hlink : Cond.fieldLink M.2.2.1 i ref (T k).2.1 (T k).2.2.1 ∈ wsL_law) (hsame : (T k).1 = ref)
    (hfin : (T k).2.2.2 = false) (hd9 : parseFieldDescriptor (T k).2.2.1 = some ty) (ht90 : t < 90) (hft : fT true ci k = t) (hty : (t = 0 ∧ ty = .int) ∨ (t = 1 ∧ ty = .long) ∨ (t = 2 ∧ ty = .boolean) ∨ (3 ≤ t ∧ ((∃ z, ty = .object z) ∨ ∃ z, ty = .array z)))
    (hd : decode M.1 pc = .ok (.putfield i, 3)) (kk : Wq p l e R s m args below meth c D G A H0 sg n0 M x cells slots (pc + 3) lv st (hup h o k v)) : Wq p l e R s m args below meth c D G A H0 sg n0 M x cells slots pc lv ((t, v) :: (10 + ci, o) :: st) h := by
  intro hC hh hn hlv hst H locs ls hw hS hls
  have ho : hT (nn h) (10 + ci) o := hst _ (List.mem_cons_of_mem _ List.mem_cons_self)
  have hv : hT (nn h) t v := hst _ List.mem_cons_self
  obtain ⟨h0, h1, h2⟩ := kOk (by omega) (by omega) ho
  have hx := hC.2.2.2.2.2.2.2.2.1
  have hnn := nn_hup (h := h) (j := (k : Int)) (v := v) h0
  rw [List.map_cons, List.map_cons, cv_refn G.1 (show 3 ≤ 10 + ci by omega) h0]
  refine va_put (D := D) (ci := ci) (fs := (List.range (nf ci)).map (fun j => cv G.1 (fT true ci j, h o j))) (C := C) (T := T) (N := N) hC.1 hC.2.1 hx hin ty0 hty0 hnm hC.2.2.2.1 hC.2.2.2.2.2.2.2.2.2.2.1 hw.1 hw.2 hS o.toNat (by rw [wld_get h0 h1, h2, cel_obj hci]) hc k hk (hx _ hlink) (fun _ h9 => by rw [← hsame]; exact h9) hfin hd9 (nar_ok hty hv).1 (nar_ok hty hv).2 (by simp; rw [hN]; exact hk) hd (fun H1 locs1 hP hD hS1 => ?_)
  have hcel : (G.1 o.toNat, Sum.inr (ci, ((List.range (nf ci)).map (fun j => cv G.1 (fT true ci j, h o j))).set k (cv G.1 (t, v)))) = ((G.1 o.toNat, cel G (kd o.toNat) (hup h o k v o)) : Nat × va_E) := by
    rw [← hft, fld_set (by rw [hN]; exact hk), h2, cel_obj hci]
  rw [hcel, wld_set h0 h1] at hP hD
  exact kk hC (hh.putF hci ho (hT_wk ht90 hft hv)) (by rw [hnn]; exact hn) (by rw [hnn]; exact hlv) (by rw [hnn]; exact fun q hq => hst q (List.mem_cons_of_mem _ (List.mem_cons_of_mem _ hq))) H1 locs1 ls ⟨hP, hD⟩ hS1 hls
/-- a row's length -/
theorem ty_at {G : gG} {t : Nat} (ht : 50 ≤ t) (ht2 : t < 56) : ∃ ty, (tyG G)[t - 50]? = some (G.2 t, ty) := by
  have : t = 50 ∨ t = 51 ∨ t = 52 ∨ t = 53 ∨ t = 54 ∨ t = 55 := by omega
  rcases this with rfl | rfl | rfl | rfl | rfl | rfl <;> exact ⟨_, rfl⟩
theorem cel_any {G : gG} {t : Nat} {f : Int → Int} (ht : 50 ≤ t) (ht2 : t < 56) : ∃ z, cel G t f = .inl (G.2 t, (f (-1)).toNat, z) := by
  have : t = 50 ∨ t = 51 ∨ t = 52 ∨ t = 53 ∨ t = 54 ∨ t = 55 := by omega
  rcases this with rfl | rfl | rfl | rfl | rfl | rfl <;> exact ⟨_, rfl⟩
theorem r_alen {t : Nat} {o : Int} (ht : 50 ≤ t) (ht2 : t < 56) (hd : decode M.1 pc = .ok (.arraylength, 1)) (kk : Wq p l e R s m args below meth c D G A H0 sg n0 M x cells slots (pc + 1) lv ((0, h o (-1)) :: st) h) : Wq p l e R s m args below meth c D G A H0 sg n0 M x cells slots pc lv ((t, o) :: st) h := by
  intro hC hh hn hlv hst H locs ls hw hS hls
  have ho : hT (nn h) t o := hst _ List.mem_cons_self
  obtain ⟨h0, h1, h2⟩ := kOk (by omega) (by omega) ho
  have hl := hh.len ht (by omega) ho
  have k2 := kk hC hh hn hlv (stc (v := (0, h o (-1))) ((R32_iff _).mpr (by omega)) (fun q hq => hst q (List.mem_cons_of_mem _ hq))) H locs ls hw hS hls
  rw [List.map_cons, cv_refn G.1 (by omega) h0]
  obtain ⟨ty, hty⟩ := ty_at (G := G) ht ht2
  obtain ⟨z, hz⟩ := cel_any (G := G) (f := h o) ht ht2
  refine va_alen (D := D) hC.1 hC.2.1 hC.2.2.2.2.2.2.2.2.2.2.1 hw.1 o.toNat (t - 50) (by rw [wld_get h0 h1, h2, hz]) hty ?_ hd k2
  dsimp only
  have hr9 : R32 (h o (-1)) := (R32_iff _).mpr (by omega)
  have e9 := ofNat_toNatClampNeg32 (Int32.ofInt (h o (-1))) (by rw [show (0 : Int32) = Int32.ofInt 0 from rfl, ofI_lt hr9 (by decide)]; omega)
  rw [Int32.toNatClampNeg, hr9.toI] at e9
  exact e9
/-- a row is read: the place must be there -/
def aget (h : hH) (o j : Int) : Option Int := if 0 ≤ j ∧ j < h o (-1) then some (h o j) else none
def aput (h : hH) (o j v : Int) : Option hH := if 0 ≤ j ∧ j < h o (-1) then some (hup h o j v) else none
theorem aget_some {o j v : Int} (hg : aget h o j = some v) : 0 ≤ j ∧ j < h o (-1) ∧ v = h o j := by
  unfold aget at hg
  split at hg
  · rename_i z; cases hg; exact ⟨z.1, z.2, rfl⟩
  · cases hg
theorem aput_some {o j v : Int} {h1 : hH} (hg : aput h o j v = some h1) : 0 ≤ j ∧ j < h o (-1) ∧ h1 = hup h o j v := by
  unfold aput at hg
  split at hg
  · rename_i z; cases hg; exact ⟨z.1, z.2, rfl⟩
  · cases hg
end CORE4
section CORE5
variable {p : Program} {l : Launch} {e : Env} {R : Room} {s : State} {m : MethodId} {args : Array Value} {below : List Frame} {meth : Method} {c : Code} {D : va_G} {G : gG} {A : Nat → Prop} {H0 : Heap} {sg : Bool} {n0 : Int} {M : mM} {x : Option vV × hH} {cells slots : Nat} {pc : Nat} {lv : List (Nat × vV)} {st : List vV} {h : hH}
theorem r_iald {o j v : Int} (hd : decode M.1 pc = .ok (.iaload, 1)) (hg : aget h o j = some v) (kk : Wq p l e R s m args below meth c D G A H0 sg n0 M x cells slots (pc + 1) lv ((0, v) :: st) h) : Wq p l e R s m args below meth c D G A H0 sg n0 M x cells slots pc lv ((0, j) :: (50, o) :: st) h := by
  obtain ⟨hj0, hj1, rfl⟩ := aget_some hg
  intro hC hh hn hlv hst H locs ls hw hS hls
  have ho : hT (nn h) 50 o := hst _ (List.mem_cons_of_mem _ List.mem_cons_self)
  have hj : R32 j := hst _ List.mem_cons_self
  obtain ⟨h0, h1, h2⟩ := kOk (by omega) (by omega) ho
  have hlen := hh.len (by omega) (by omega) ho
  have k2 := kk hC hh hn hlv (stc (v := (0, h o j)) (hlen.2.2 j hj0 hj1) (fun q hq => hst q (List.mem_cons_of_mem _ (List.mem_cons_of_mem _ hq)))) H locs ls hw hS hls
  obtain ⟨hin, hcl⟩ := rIn hj hj0 hj1
  rw [List.map_cons, List.map_cons, cv_refn G.1 (show 3 ≤ 50 by omega) h0]
  refine va_iald (D := D) (f := fun j => Int32.ofInt (h o (j : Nat))) (t0 := 0) hC.1 hC.2.1 hC.2.2.2.2.2.2.2.2.2.2.1 hw.1 o.toNat (by rw [wld_get h0 h1, h2, cel_arr (Or.inl rfl)]) rfl hin hd ?_
  rw [hcl]
  have ej : ((j.toNat : Nat) : Int) = j := Int.toNat_of_nonneg hj0
  simp only [ej]
  exact k2
theorem r_bald {o j v : Int} (hd : decode M.1 pc = .ok (.baload, 1)) (hg : aget h o j = some v) (kk : Wq p l e R s m args below meth c D G A H0 sg n0 M x cells slots (pc + 1) lv ((0, v) :: st) h) : Wq p l e R s m args below meth c D G A H0 sg n0 M x cells slots pc lv ((0, j) :: (52, o) :: st) h := by
  obtain ⟨hj0, hj1, rfl⟩ := aget_some hg
  intro hC hh hn hlv hst H locs ls hw hS hls
  have ho : hT (nn h) 52 o := hst _ (List.mem_cons_of_mem _ List.mem_cons_self)
  have hj : R32 j := hst _ List.mem_cons_self
  obtain ⟨h0, h1, h2⟩ := kOk (by omega) (by omega) ho
  have hlen := hh.len (by omega) (by omega) ho
  have k2 := kk hC hh hn hlv (stc (v := (0, h o j)) (hlen.2.2 j hj0 hj1) (fun q hq => hst q (List.mem_cons_of_mem _ (List.mem_cons_of_mem _ hq)))) H locs ls hw hS hls
  obtain ⟨hin, hcl⟩ := rIn hj hj0 hj1
  rw [List.map_cons, List.map_cons, cv_refn G.1 (show 3 ≤ 52 by omega) h0]
  refine va_bald (D := D) (f := fun j => Int32.ofInt (h o (j : Nat))) (t0 := 2) hC.1 hC.2.1 hC.2.2.2.2.2.2.2.2.2.2.1 hw.1 o.toNat (by rw [wld_get h0 h1, h2, cel_arr (Or.inr (Or.inl rfl))]) rfl hin hd ?_
  rw [hcl]
  have ej : ((j.toNat : Nat) : Int) = j := Int.toNat_of_nonneg hj0
  simp only [ej]
  exact k2
theorem r_zald {o j v : Int} (hd : decode M.1 pc = .ok (.baload, 1)) (hg : aget h o j = some v) (kk : Wq p l e R s m args below meth c D G A H0 sg n0 M x cells slots (pc + 1) lv ((2, v) :: st) h) : Wq p l e R s m args below meth c D G A H0 sg n0 M x cells slots pc lv ((0, j) :: (53, o) :: st) h := by
  obtain ⟨hj0, hj1, rfl⟩ := aget_some hg
  intro hC hh hn hlv hst H locs ls hw hS hls
  have ho : hT (nn h) 53 o := hst _ (List.mem_cons_of_mem _ List.mem_cons_self)
  have hj : R32 j := hst _ List.mem_cons_self
  obtain ⟨h0, h1, h2⟩ := kOk (by omega) (by omega) ho
  have hlen := hh.len (by omega) (by omega) ho
  have k2 := kk hC hh hn hlv (stc (v := (2, h o j)) (hlen.2.2 j hj0 hj1) (fun q hq => hst q (List.mem_cons_of_mem _ (List.mem_cons_of_mem _ hq)))) H locs ls hw hS hls
  obtain ⟨hin, hcl⟩ := rIn hj hj0 hj1
  rw [List.map_cons, List.map_cons, cv_refn G.1 (show 3 ≤ 53 by omega) h0]
  refine va_zald (D := D) (f := fun j => Int32.ofInt (h o (j : Nat))) (t0 := 3) hC.1 hC.2.1 hC.2.2.2.2.2.2.2.2.2.2.1 hw.1 o.toNat (by rw [wld_get h0 h1, h2, cel_arr (Or.inr (Or.inr rfl))]) rfl hin hd ?_
  rw [hcl]
  have ej : ((j.toNat : Nat) : Int) = j := Int.toNat_of_nonneg hj0
  simp only [ej]
  exact k2
theorem r_lald {o j v : Int} (hd : decode M.1 pc = .ok (.laload, 1)) (hg : aget h o j = some v) (kk : Wq p l e R s m args below meth c D G A H0 sg n0 M x cells slots (pc + 1) lv ((1, v) :: st) h) : Wq p l e R s m args below meth c D G A H0 sg n0 M x cells slots pc lv ((0, j) :: (51, o) :: st) h := by
  obtain ⟨hj0, hj1, rfl⟩ := aget_some hg
  intro hC hh hn hlv hst H locs ls hw hS hls
  have ho : hT (nn h) 51 o := hst _ (List.mem_cons_of_mem _ List.mem_cons_self)
  have hj : R32 j := hst _ List.mem_cons_self
  obtain ⟨h0, h1, h2⟩ := kOk (by omega) (by omega) ho
  have hlen := hh.len (by omega) (by omega) ho
  have k2 := kk hC hh hn hlv (stc (v := (1, h o j)) (hlen.2.2 j hj0 hj1) (fun q hq => hst q (List.mem_cons_of_mem _ (List.mem_cons_of_mem _ hq)))) H locs ls hw hS hls
  obtain ⟨hin, hcl⟩ := rIn hj hj0 hj1
  rw [List.map_cons, List.map_cons, cv_refn G.1 (show 3 ≤ 51 by omega) h0]
  refine va_lald (D := D) (f := fun j => Int64.ofInt (h o (j : Nat))) (t0 := 1) hC.1 hC.2.1 hC.2.2.2.2.2.2.2.2.2.2.1 hw.1 o.toNat (by rw [wld_get h0 h1, h2, cel_lon]) rfl hin hd ?_
  rw [hcl]
  have ej : ((j.toNat : Nat) : Int) = j := Int.toNat_of_nonneg hj0
  simp only [ej]
  exact k2
theorem r_rald {o j v : Int} (hd : decode M.1 pc = .ok (.aaload, 1)) (hg : aget h o j = some v) (kk : Wq p l e R s m args below meth c D G A H0 sg n0 M x cells slots (pc + 1) lv ((118, v) :: st) h) : Wq p l e R s m args below meth c D G A H0 sg n0 M x cells slots pc lv ((0, j) :: (54, o) :: st) h := by
  obtain ⟨hj0, hj1, rfl⟩ := aget_some hg
  intro hC hh hn hlv hst H locs ls hw hS hls
  have ho : hT (nn h) 54 o := hst _ (List.mem_cons_of_mem _ List.mem_cons_self)
  have hj : R32 j := hst _ List.mem_cons_self
  obtain ⟨h0, h1, h2⟩ := kOk (by omega) (by omega) ho
  have hlen := hh.len (by omega) (by omega) ho
  have k2 := kk hC hh hn hlv (stc (v := (118, h o j)) (hlen.2.2 j hj0 hj1) (fun q hq => hst q (List.mem_cons_of_mem _ (List.mem_cons_of_mem _ hq)))) H locs ls hw hS hls
  obtain ⟨hin, hcl⟩ := rIn hj hj0 hj1
  rw [List.map_cons, List.map_cons, cv_refn G.1 (show 3 ≤ 54 by omega) h0]
  refine va_aldq (D := D) (f := fun j => if h o (j : Nat) < 0 then none else some (G.1 (h o (j : Nat)).toNat)) (t0 := 4) hC.1 hC.2.1 hC.2.2.2.2.2.2.2.2.2.2.1 hw.1 o.toNat (by rw [wld_get h0 h1, h2, cel_row (Or.inl rfl)]) rfl hin hd ?_
  rw [hcl]
  have ej : ((j.toNat : Nat) : Int) = j := Int.toNat_of_nonneg hj0
  simp only [ej]
  rw [List.map_cons, show cv G.1 (118, h o j) = va_rf (if h o j < 0 then none else some (G.1 (h o j).toNat)) from by
    show cv G.1 (115 + 3, h o j) = _
    rw [cv_ge]
    split <;> rfl] at k2
  exact k2
theorem r_mald {o j v : Int} (hd : decode M.1 pc = .ok (.aaload, 1)) (hg : aget h o j = some v) (kk : Wq p l e R s m args below meth c D G A H0 sg n0 M x cells slots (pc + 1) lv ((110, v) :: st) h) : Wq p l e R s m args below meth c D G A H0 sg n0 M x cells slots pc lv ((0, j) :: (55, o) :: st) h := by
  obtain ⟨hj0, hj1, rfl⟩ := aget_some hg
  intro hC hh hn hlv hst H locs ls hw hS hls
  have ho : hT (nn h) 55 o := hst _ (List.mem_cons_of_mem _ List.mem_cons_self)
  have hj : R32 j := hst _ List.mem_cons_self
  obtain ⟨h0, h1, h2⟩ := kOk (by omega) (by omega) ho
  have hlen := hh.len (by omega) (by omega) ho
  have k2 := kk hC hh hn hlv (stc (v := (110, h o j)) (hlen.2.2 j hj0 hj1) (fun q hq => hst q (List.mem_cons_of_mem _ (List.mem_cons_of_mem _ hq)))) H locs ls hw hS hls
  obtain ⟨hin, hcl⟩ := rIn hj hj0 hj1
  rw [List.map_cons, List.map_cons, cv_refn G.1 (show 3 ≤ 55 by omega) h0]
  refine va_aldq (D := D) (f := fun j => if h o (j : Nat) < 0 then none else some (G.1 (h o (j : Nat)).toNat)) (t0 := 5) hC.1 hC.2.1 hC.2.2.2.2.2.2.2.2.2.2.1 hw.1 o.toNat (by rw [wld_get h0 h1, h2, cel_row (Or.inr rfl)]) rfl hin hd ?_
  rw [hcl]
  have ej : ((j.toNat : Nat) : Int) = j := Int.toNat_of_nonneg hj0
  simp only [ej]
  rw [List.map_cons, show cv G.1 (110, h o j) = va_rf (if h o j < 0 then none else some (G.1 (h o j).toNat)) from by
    show cv G.1 (107 + 3, h o j) = _
    rw [cv_ge]
    split <;> rfl] at k2
  exact k2
theorem r_iast {o j v : Int} {h1 : hH} (hd : decode M.1 pc = .ok (.iastore, 1)) (hg : aput h o j (v) = some h1) (kk : Wq p l e R s m args below meth c D G A H0 sg n0 M x cells slots (pc + 1) lv st h1) : Wq p l e R s m args below meth c D G A H0 sg n0 M x cells slots pc lv ((0, v) :: (0, j) :: (50, o) :: st) h := by
  obtain ⟨hj0, hj1, rfl⟩ := aput_some hg
  intro hC hh hn hlv hst H locs ls hw hS hls
  have ho : hT (nn h) 50 o := hst _ (List.mem_cons_of_mem _ (List.mem_cons_of_mem _ List.mem_cons_self))
  have hj : R32 j := hst _ (List.mem_cons_of_mem _ List.mem_cons_self)
  have hv : hT (nn h) 0 v := hst _ List.mem_cons_self
  obtain ⟨h0, h1, h2⟩ := kOk (by omega) (by omega) ho
  obtain ⟨hin, hcl⟩ := rIn hj hj0 hj1
  have hnn := nn_hup (h := h) (j := j) (v := v) h0
  have hlen9 : hup h o j (v) o (-1) = h o (-1) := by simp [hup]; omega
  rw [List.map_cons, List.map_cons, List.map_cons, cv_refn G.1 (show 3 ≤ 50 by omega) h0]
  refine va_iast (D := D) (f := fun j => Int32.ofInt (h o (j : Nat))) (t0 := 0) hC.1 hC.2.1 hC.2.2.2.2.2.2.2.2.2.2.1 hw.1 hw.2 hS o.toNat (by rw [wld_get h0 h1, h2, cel_arr (Or.inl rfl)]) rfl hin hd (fun H1 locs1 hP hD hS1 => ?_)
  have hcel : (G.1 o.toNat, Sum.inl (G.2 50, (h o (-1)).toNat, .inl (upd (fun j => Int32.ofInt (h o (j : Nat))) (Int32.ofInt j).toNatClampNeg (Int32.ofInt v)))) = ((G.1 o.toNat, cel G (kd o.toNat) (hup h o j (v) o)) : Nat × va_E) := by
    rw [h2, cel_arr (Or.inl rfl), hlen9, hcl]
    congr 5
    funext i
    simp only [upd, hup, true_and]
    by_cases hi : i = j.toNat
    · rw [if_pos hi, if_pos (by omega)]
    · rw [if_neg hi, if_neg (by omega)]
  rw [hcel, wld_set h0 h1] at hP hD
  exact kk hC (hh.putA (by omega) (by omega) ho hj0 hv) (by rw [hnn]; exact hn) (by rw [hnn]; exact hlv) (by rw [hnn]; exact (fun q hq => hst q (List.mem_cons_of_mem _ (List.mem_cons_of_mem _ (List.mem_cons_of_mem _ hq))))) H1 locs1 ls ⟨hP, hD⟩ hS1 hls
theorem r_bast {o j v : Int} {h1 : hH} (hd : decode M.1 pc = .ok (.bastore, 1)) (hg : aput h o j (i2bD v) = some h1) (kk : Wq p l e R s m args below meth c D G A H0 sg n0 M x cells slots (pc + 1) lv st h1) : Wq p l e R s m args below meth c D G A H0 sg n0 M x cells slots pc lv ((0, v) :: (0, j) :: (52, o) :: st) h := by
  obtain ⟨hj0, hj1, rfl⟩ := aput_some hg
  intro hC hh hn hlv hst H locs ls hw hS hls
  have ho : hT (nn h) 52 o := hst _ (List.mem_cons_of_mem _ (List.mem_cons_of_mem _ List.mem_cons_self))
  have hj : R32 j := hst _ (List.mem_cons_of_mem _ List.mem_cons_self)
  have hv : hT (nn h) 0 v := hst _ List.mem_cons_self
  obtain ⟨h0, h1, h2⟩ := kOk (by omega) (by omega) ho
  obtain ⟨hin, hcl⟩ := rIn hj hj0 hj1
  have hnn := nn_hup (h := h) (j := j) (v := i2bD v) h0
  have hlen9 : hup h o j (i2bD v) o (-1) = h o (-1) := by simp [hup]; omega
  rw [List.map_cons, List.map_cons, List.map_cons, cv_refn G.1 (show 3 ≤ 52 by omega) h0]
  refine va_bast (D := D) (f := fun j => Int32.ofInt (h o (j : Nat))) (t0 := 2) hC.1 hC.2.1 hC.2.2.2.2.2.2.2.2.2.2.1 hw.1 hw.2 hS o.toNat (by rw [wld_get h0 h1, h2, cel_arr (Or.inr (Or.inl rfl))]) rfl hin hd (fun H1 locs1 hP hD hS1 => ?_)
  have hcel : (G.1 o.toNat, Sum.inl (G.2 52, (h o (-1)).toNat, .inl (upd (fun j => Int32.ofInt (h o (j : Nat))) (Int32.ofInt j).toNatClampNeg (vp_nar .byte (Int32.ofInt v))))) = ((G.1 o.toNat, cel G (kd o.toNat) (hup h o j (i2bD v) o)) : Nat × va_E) := by
    rw [h2, cel_arr (Or.inr (Or.inl rfl)), hlen9, hcl]
    congr 5
    funext i
    simp only [upd, hup, true_and]
    by_cases hi : i = j.toNat
    · rw [if_pos hi, if_pos (by omega)]
      simp only [i2bD, w32_ofInt, Int32.ofInt_toInt]
      rfl
    · rw [if_neg hi, if_neg (by omega)]
  rw [hcel, wld_set h0 h1] at hP hD
  exact kk hC (hh.putA (by omega) (by omega) ho hj0 (R32_w _)) (by rw [hnn]; exact hn) (by rw [hnn]; exact hlv) (by rw [hnn]; exact (fun q hq => hst q (List.mem_cons_of_mem _ (List.mem_cons_of_mem _ (List.mem_cons_of_mem _ hq))))) H1 locs1 ls ⟨hP, hD⟩ hS1 hls
theorem r_zast {o j v : Int} {h1 : hH} (hd : decode M.1 pc = .ok (.bastore, 1)) (hg : aput h o j (v) = some h1) (kk : Wq p l e R s m args below meth c D G A H0 sg n0 M x cells slots (pc + 1) lv st h1) : Wq p l e R s m args below meth c D G A H0 sg n0 M x cells slots pc lv ((2, v) :: (0, j) :: (53, o) :: st) h := by
  obtain ⟨hj0, hj1, rfl⟩ := aput_some hg
  intro hC hh hn hlv hst H locs ls hw hS hls
  have ho : hT (nn h) 53 o := hst _ (List.mem_cons_of_mem _ (List.mem_cons_of_mem _ List.mem_cons_self))
  have hj : R32 j := hst _ (List.mem_cons_of_mem _ List.mem_cons_self)
  have hv : hT (nn h) 2 v := hst _ List.mem_cons_self
  obtain ⟨h0, h1, h2⟩ := kOk (by omega) (by omega) ho
  obtain ⟨hin, hcl⟩ := rIn hj hj0 hj1
  have hnn := nn_hup (h := h) (j := j) (v := v) h0
  have hlen9 : hup h o j (v) o (-1) = h o (-1) := by simp [hup]; omega
  rw [List.map_cons, List.map_cons, List.map_cons, cv_refn G.1 (show 3 ≤ 53 by omega) h0]
  refine va_zast (D := D) (f := fun j => Int32.ofInt (h o (j : Nat))) (t0 := 3) hC.1 hC.2.1 hC.2.2.2.2.2.2.2.2.2.2.1 hw.1 hw.2 hS o.toNat (by rw [wld_get h0 h1, h2, cel_arr (Or.inr (Or.inr rfl))]) rfl hin hd (fun H1 locs1 hP hD hS1 => ?_)
  have hcel : (G.1 o.toNat, Sum.inl (G.2 53, (h o (-1)).toNat, .inl (upd (fun j => Int32.ofInt (h o (j : Nat))) (Int32.ofInt j).toNatClampNeg (vp_nar .boolean (Int32.ofInt v))))) = ((G.1 o.toNat, cel G (kd o.toNat) (hup h o j (v) o)) : Nat × va_E) := by
    rw [h2, cel_arr (Or.inr (Or.inr rfl)), hlen9, hcl]
    congr 5
    funext i
    simp only [upd, hup, true_and]
    by_cases hi : i = j.toNat
    · rw [if_pos hi, if_pos (by omega)]
      rcases hv with e9 | e9 <;> subst e9 <;> rfl
    · rw [if_neg hi, if_neg (by omega)]
  rw [hcel, wld_set h0 h1] at hP hD
  exact kk hC (hh.putA (by omega) (by omega) ho hj0 hv) (by rw [hnn]; exact hn) (by rw [hnn]; exact hlv) (by rw [hnn]; exact (fun q hq => hst q (List.mem_cons_of_mem _ (List.mem_cons_of_mem _ (List.mem_cons_of_mem _ hq))))) H1 locs1 ls ⟨hP, hD⟩ hS1 hls
theorem r_last {o j v : Int} {h1 : hH} (hd : decode M.1 pc = .ok (.lastore, 1)) (hg : aput h o j (v) = some h1) (kk : Wq p l e R s m args below meth c D G A H0 sg n0 M x cells slots (pc + 1) lv st h1) : Wq p l e R s m args below meth c D G A H0 sg n0 M x cells slots pc lv ((1, v) :: (0, j) :: (51, o) :: st) h := by
  obtain ⟨hj0, hj1, rfl⟩ := aput_some hg
  intro hC hh hn hlv hst H locs ls hw hS hls
  have ho : hT (nn h) 51 o := hst _ (List.mem_cons_of_mem _ (List.mem_cons_of_mem _ List.mem_cons_self))
  have hj : R32 j := hst _ (List.mem_cons_of_mem _ List.mem_cons_self)
  have hv : hT (nn h) 1 v := hst _ List.mem_cons_self
  obtain ⟨h0, h1, h2⟩ := kOk (by omega) (by omega) ho
  obtain ⟨hin, hcl⟩ := rIn hj hj0 hj1
  have hnn := nn_hup (h := h) (j := j) (v := v) h0
  have hlen9 : hup h o j (v) o (-1) = h o (-1) := by simp [hup]; omega
  rw [List.map_cons, List.map_cons, List.map_cons, cv_refn G.1 (show 3 ≤ 51 by omega) h0]
  refine va_last (D := D) (f := fun j => Int64.ofInt (h o (j : Nat))) (t0 := 1) hC.1 hC.2.1 hC.2.2.2.2.2.2.2.2.2.2.1 hw.1 hw.2 hS o.toNat (by rw [wld_get h0 h1, h2, cel_lon]) rfl hin hd (fun H1 locs1 hP hD hS1 => ?_)
  have hcel : (G.1 o.toNat, Sum.inl (G.2 51, (h o (-1)).toNat, .inr (.inl (vp_updL (fun j => Int64.ofInt (h o (j : Nat))) (Int32.ofInt j).toNatClampNeg (Int64.ofInt v))))) = ((G.1 o.toNat, cel G (kd o.toNat) (hup h o j (v) o)) : Nat × va_E) := by
    rw [h2, cel_lon, hlen9, hcl]
    congr 6
    funext i
    simp only [vp_updL, hup, true_and]
    by_cases hi : i = j.toNat
    · rw [if_pos hi, if_pos (by omega)]
    · rw [if_neg hi, if_neg (by omega)]
  rw [hcel, wld_set h0 h1] at hP hD
  exact kk hC (hh.putA (by omega) (by omega) ho hj0 hv) (by rw [hnn]; exact hn) (by rw [hnn]; exact hlv) (by rw [hnn]; exact (fun q hq => hst q (List.mem_cons_of_mem _ (List.mem_cons_of_mem _ (List.mem_cons_of_mem _ hq))))) H1 locs1 ls ⟨hP, hD⟩ hS1 hls
end CORE5
