/-! COPIES OF ROWS, THE LESSER OF TWO -/
def nng (v : Int) : Option Int := if v < 0 then none else some v
theorem nng_ok {v z : Int} (h : nng v = some z) : 0 ≤ v := by
  unfold nng at h
  split at h
  · cases h
  · omega
def miD (a b : Int) : Int := if b < a then b else a
def acH (h : hH) (o1 sp o2 dp n : Int) : hH := fun a b => if a = o2 ∧ dp ≤ b ∧ b < dp + n then h o1 (sp + (b - dp)) else h a b
theorem acH_off {h : hH} {o1 sp o2 dp n a : Int} (ha : a ≠ o2) : acH h o1 sp o2 dp n a = h a := by
  funext b
  exact if_neg (fun z => ha z.1)
theorem acH_len {h : hH} {o1 sp o2 dp n : Int} (hd : 0 ≤ dp) : acH h o1 sp o2 dp n o2 (-1) = h o2 (-1) := if_neg (by omega)
theorem acH_in {h : hH} {o1 sp o2 dp n b : Int} (h1 : dp ≤ b) (h2 : b < dp + n) : acH h o1 sp o2 dp n o2 b = h o1 (sp + (b - dp)) := if_pos ⟨rfl, h1, h2⟩
theorem acH_out {h : hH} {o1 sp o2 dp n b : Int} (h1 : ¬ (dp ≤ b ∧ b < dp + n)) : acH h o1 sp o2 dp n o2 b = h o2 b := if_neg (fun z => h1 z.2)
def acp (h : hH) (o1 sp o2 dp n : Int) : Option hH := if 0 ≤ sp ∧ 0 ≤ dp ∧ 0 ≤ n ∧ sp + n ≤ h o1 (-1) ∧ dp + n ≤ h o2 (-1) then some (acH h o1 sp o2 dp n) else none
theorem wld_setF {G : gG} {h h' : hH} {k : Int} (h0 : 0 ≤ k) (hk : k < nn h) (hoff : ∀ a, a ≠ k → h' a = h a) : (wld G h).set k.toNat (G.1 k.toNat, cel G (kd k.toNat) (h' k)) = wld G h' := by
  have hn : nn h' = nn h := by unfold nn; rw [hoff (-1) (by omega)]
  apply List.ext_getElem?
  intro i
  by_cases hi : i = k.toNat
  · subst hi
    have hl : k.toNat < (wld G h).length := by simp [wld]; omega
    rw [List.getElem?_set_self hl, wld_get h0 (by rw [hn]; exact hk)]
  · rw [List.getElem?_set_ne (Ne.symm hi)]
    have hc : h' (i : Int) = h (i : Int) := hoff _ (by omega)
    simp only [wld, hn, List.getElem?_map]
    cases hr : (List.range (nn h).toNat)[i]? with
    | none => rfl
    | some a =>
      have ha : a = i := by
        have := (List.getElem?_eq_some_iff.mp hr).2
        simpa using this.symm
      subst ha
      simp only [Option.map_some, hc]
section CORE9
variable {p : Program} {l : Launch} {e : Env} {R : Room} {s : State} {m : MethodId} {args : Array Value} {below : List Frame} {meth : Method} {c : Code} {D : va_G} {G : gG} {A : Nat → Prop} {H0 : Heap} {sg : Bool} {n0 : Int} {M : mM} {x : Option vV × hH} {cells slots : Nat} {pc : Nat} {lv : List (Nat × vV)} {st : List vV} {h : hH}
theorem hOk.putG {h' : hH} {k : Int} (hh : hOk sg h) (h0 : 0 ≤ k) (hoff : ∀ a, a ≠ k → h' a = h a) (hv : k < nn h → cOk sg (nn h) (kd k.toNat) (h k) → cOk sg (nn h) (kd k.toNat) (h' k)) : hOk sg h' := by
  have hn : nn h' = nn h := by unfold nn; rw [hoff (-1) (by omega)]
  refine ⟨by rw [hn]; exact hh.1, by rw [hn]; exact hh.2.1, fun i hi => ?_⟩
  rw [hn] at hi ⊢
  by_cases hik : (i : Int) = k
  · subst hik
    exact hv hi (hh.2.2 i hi)
  · rw [hoff _ hik]
    exact hh.2.2 i hi
theorem acp_some {o1 sp o2 dp n : Int} {h1 : hH} (hg : acp h o1 sp o2 dp n = some h1) : (0 ≤ sp ∧ 0 ≤ dp ∧ 0 ≤ n ∧ sp + n ≤ h o1 (-1) ∧ dp + n ≤ h o2 (-1)) ∧ h1 = acH h o1 sp o2 dp n := by
  unfold acp at hg
  split at hg
  · rename_i z; cases hg; exact ⟨z, rfl⟩
  · cases hg
theorem cnI {n : Int} (hn : R32 n) (h0 : 0 ≤ n) : ¬ Int32.ofInt n < 0 ∧ (Int32.ofInt n).toNatClampNeg = n.toNat := by
  refine ⟨?_, ?_⟩
  · rw [show (0 : Int32) = Int32.ofInt 0 from rfl, ofI_lt hn (by decide)]; omega
  · rw [Int32.toNatClampNeg, hn.toI]
theorem r_acpi {i : Nat} {o1 sp o2 dp n : Int} {h1 : hH} (hd : decode M.1 pc = .ok (.invokestatic i, 3)) (hg : acp h o1 sp o2 dp n = some h1) (w1 : Cond.methodLink M.2.2.1 i arraycopyName ∈ wsL_law) (w2 : Cond.native arraycopyName ∈ wsL_law) (w3 : Cond.static arraycopyName ∈ wsL_law) (w4 : Cond.initialized "java/lang/System" ∈ wsL_law) (hR : 1 ≤ M.2.2.2.2.2.1 ∧ szA st + (nativeFrameWords "java/lang/System" "arraycopy" 5 + 11) ≤ M.2.2.2.2.2.2.1)
    (kk : Wq p l e R s m args below meth c D G A H0 sg n0 M x cells slots (pc + 3) lv st h1) : Wq p l e R s m args below meth c D G A H0 sg n0 M x cells slots pc lv ((0, n) :: (0, dp) :: (50, o2) :: (0, sp) :: (50, o1) :: st) h := by
  intro hC hh hn hlv hst H locs ls hw hS hls
  obtain ⟨⟨z1, z2, z3, z4, z5⟩, rfl⟩ := acp_some hg
  have hts := hC.2.2.2.2.2.2.2.2.1
  have hRR := hC.2.2.2.2.2.2.1
  have hK := hC.2.2.2.2.2.2.2.2.2.2.1
  have hn9 : R32 n := hst (0, n) (by simp)
  have hdp : R32 dp := hst (0, dp) (by simp)
  have hsp : R32 sp := hst (0, sp) (by simp)
  have ho2 : hT (nn h) 50 o2 := hst (50, o2) (by simp)
  have ho1 : hT (nn h) 50 o1 := hst (50, o1) (by simp)
  obtain ⟨a0, a1, a2⟩ := kOk (by omega) (by omega) ho1
  obtain ⟨b0, b1, b2⟩ := kOk (by omega) (by omega) ho2
  have hl1 := hh.len (by omega) (by omega) ho1
  have hl2 := hh.len (by omega) (by omega) ho2
  obtain ⟨c1, d1⟩ := cnI hn9 z3
  obtain ⟨c2, d2⟩ := cnI hdp z2
  obtain ⟨c3, d3⟩ := cnI hsp z1
  have hoff : ∀ a : Int, a ≠ o2 → acH h o1 sp o2 dp n a = h a := fun a ha => acH_off ha
  rw [List.map_cons, List.map_cons, List.map_cons, List.map_cons, List.map_cons, cv_refn G.1 (show 3 ≤ 50 by omega) b0, cv_refn G.1 (show 3 ≤ 50 by omega) a0]
  refine va_copyi (D := D) (ty := .int) (f := fun j => Int32.ofInt (h o1 (j : Nat))) (g := fun j => Int32.ofInt (h o2 (j : Nat))) hC.1 hC.2.1 (hC.2.2.1.trans hls.1.symm) hC.2.2.2.1 (hts _ w1) (hts _ w2) (hts _ w3) (hts _ w4) hK hw.1 hw.2 hS o1.toNat o2.toNat 0 0 (by rw [wld_get a0 a1, a2, cel_arr (Or.inl rfl)]) (by rw [wld_get b0 b1, b2, cel_arr (Or.inl rfl)]) rfl rfl rfl c3 c2 c1 (by rw [d3, d1]; omega) (by rw [d2, d1]; omega) (fun _ _ => rfl) (by rw [hRR]; exact hR.1) (by rw [hRR, cat_sum]; exact hR.2) hd (fun H1 locs1 hP hD hS1 => ?_)
  have hcel : (G.1 o2.toNat, Sum.inl (G.2 50, (h o2 (-1)).toNat, .inl (va_cpy (fun j => Int32.ofInt (h o1 (j : Nat))) (fun j => Int32.ofInt (h o2 (j : Nat))) (Int32.ofInt sp).toNatClampNeg (Int32.ofInt dp).toNatClampNeg (Int32.ofInt n).toNatClampNeg))) = ((G.1 o2.toNat, cel G (kd o2.toNat) (acH h o1 sp o2 dp n o2)) : Nat × va_E) := by
    rw [b2, cel_arr (Or.inl rfl), d1, d2, d3]
    rw [acH_len z2]
    congr 5
    funext k
    simp only [va_cpy]
    by_cases hk : dp.toNat ≤ k ∧ k < dp.toNat + n.toNat
    · rw [if_pos hk, acH_in (by omega) (by omega)]
      congr 2
      omega
    · rw [if_neg hk, acH_out (by omega)]
  rw [hcel, wld_setF b0 b1 hoff] at hP hD
  have hnn : nn (acH h o1 sp o2 dp n) = nn h := by
    unfold nn
    rw [acH_off (by omega)]
  refine kk hC (hh.putG b0 hoff (fun _ hz => ?_)) (by rw [hnn]; exact hn) (by rw [hnn]; exact hlv) (by rw [hnn]; exact fun q hq => hst q (by simp [hq])) H1 locs1 ls ⟨hP, hD⟩ hS1 hls
  rw [b2] at hz ⊢
  unfold cOk at hz ⊢
  rw [if_pos (by omega)] at hz ⊢
  rw [acH_len z2]
  refine ⟨hz.1, hz.2.1, fun j hj0 hj1 => ?_⟩
  by_cases hk : dp ≤ j ∧ j < dp + n
  · rw [acH_in hk.1 hk.2]; exact hl1.2.2 _ (by omega) (by omega)
  · rw [acH_out hk]; exact hz.2.2 j hj0 hj1
theorem r_acpl {i : Nat} {o1 sp o2 dp n : Int} {h1 : hH} (hd : decode M.1 pc = .ok (.invokestatic i, 3)) (hg : acp h o1 sp o2 dp n = some h1) (w1 : Cond.methodLink M.2.2.1 i arraycopyName ∈ wsL_law) (w2 : Cond.native arraycopyName ∈ wsL_law) (w3 : Cond.static arraycopyName ∈ wsL_law) (w4 : Cond.initialized "java/lang/System" ∈ wsL_law) (hR : 1 ≤ M.2.2.2.2.2.1 ∧ szA st + (nativeFrameWords "java/lang/System" "arraycopy" 5 + 11) ≤ M.2.2.2.2.2.2.1)
    (kk : Wq p l e R s m args below meth c D G A H0 sg n0 M x cells slots (pc + 3) lv st h1) : Wq p l e R s m args below meth c D G A H0 sg n0 M x cells slots pc lv ((0, n) :: (0, dp) :: (51, o2) :: (0, sp) :: (51, o1) :: st) h := by
  intro hC hh hn hlv hst H locs ls hw hS hls
  obtain ⟨⟨z1, z2, z3, z4, z5⟩, rfl⟩ := acp_some hg
  have hts := hC.2.2.2.2.2.2.2.2.1
  have hRR := hC.2.2.2.2.2.2.1
  have hK := hC.2.2.2.2.2.2.2.2.2.2.1
  have hn9 : R32 n := hst (0, n) (by simp)
  have hdp : R32 dp := hst (0, dp) (by simp)
  have hsp : R32 sp := hst (0, sp) (by simp)
  have ho2 : hT (nn h) 51 o2 := hst (51, o2) (by simp)
  have ho1 : hT (nn h) 51 o1 := hst (51, o1) (by simp)
  obtain ⟨a0, a1, a2⟩ := kOk (by omega) (by omega) ho1
  obtain ⟨b0, b1, b2⟩ := kOk (by omega) (by omega) ho2
  have hl1 := hh.len (by omega) (by omega) ho1
  have hl2 := hh.len (by omega) (by omega) ho2
  obtain ⟨c1, d1⟩ := cnI hn9 z3
  obtain ⟨c2, d2⟩ := cnI hdp z2
  obtain ⟨c3, d3⟩ := cnI hsp z1
  have hoff : ∀ a : Int, a ≠ o2 → acH h o1 sp o2 dp n a = h a := fun a ha => acH_off ha
  rw [List.map_cons, List.map_cons, List.map_cons, List.map_cons, List.map_cons, cv_refn G.1 (show 3 ≤ 51 by omega) b0, cv_refn G.1 (show 3 ≤ 51 by omega) a0]
  refine va_copyl (D := D) (ty := .long) (f := fun j => Int64.ofInt (h o1 (j : Nat))) (g := fun j => Int64.ofInt (h o2 (j : Nat))) hC.1 hC.2.1 (hC.2.2.1.trans hls.1.symm) hC.2.2.2.1 (hts _ w1) (hts _ w2) (hts _ w3) (hts _ w4) hK hw.1 hw.2 hS o1.toNat o2.toNat 1 1 (by rw [wld_get a0 a1, a2, cel_lon]) (by rw [wld_get b0 b1, b2, cel_lon]) rfl rfl rfl c3 c2 c1 (by rw [d3, d1]; omega) (by rw [d2, d1]; omega) (fun _ _ => rfl) (by rw [hRR]; exact hR.1) (by rw [hRR, cat_sum]; exact hR.2) hd (fun H1 locs1 hP hD hS1 => ?_)
  have hcel : (G.1 o2.toNat, Sum.inl (G.2 51, (h o2 (-1)).toNat, .inr (.inl (va_cpy (fun j => Int64.ofInt (h o1 (j : Nat))) (fun j => Int64.ofInt (h o2 (j : Nat))) (Int32.ofInt sp).toNatClampNeg (Int32.ofInt dp).toNatClampNeg (Int32.ofInt n).toNatClampNeg)))) = ((G.1 o2.toNat, cel G (kd o2.toNat) (acH h o1 sp o2 dp n o2)) : Nat × va_E) := by
    rw [b2, cel_lon, d1, d2, d3]
    rw [acH_len z2]
    congr 6
    funext k
    simp only [va_cpy]
    by_cases hk : dp.toNat ≤ k ∧ k < dp.toNat + n.toNat
    · rw [if_pos hk, acH_in (by omega) (by omega)]
      congr 2
      omega
    · rw [if_neg hk, acH_out (by omega)]
  rw [hcel, wld_setF b0 b1 hoff] at hP hD
  have hnn : nn (acH h o1 sp o2 dp n) = nn h := by
    unfold nn
    rw [acH_off (by omega)]
  refine kk hC (hh.putG b0 hoff (fun _ hz => ?_)) (by rw [hnn]; exact hn) (by rw [hnn]; exact hlv) (by rw [hnn]; exact fun q hq => hst q (by simp [hq])) H1 locs1 ls ⟨hP, hD⟩ hS1 hls
  rw [b2] at hz ⊢
  unfold cOk at hz ⊢
  rw [if_pos (by omega)] at hz ⊢
  rw [acH_len z2]
  refine ⟨hz.1, hz.2.1, fun j hj0 hj1 => ?_⟩
  by_cases hk : dp ≤ j ∧ j < dp + n
  · rw [acH_in hk.1 hk.2]; exact hl1.2.2 _ (by omega) (by omega)
  · rw [acH_out hk]; exact hz.2.2 j hj0 hj1
theorem r_min {i : Nat} {a b : Int} (hd : decode M.1 pc = .ok (.invokestatic i, 3)) (w1 : Cond.methodLink M.2.2.1 i Lib.Math.min.name ∈ wsL_law) (w2 : Cond.static Lib.Math.min.name ∈ wsL_law) (w3 : Cond.initialized "java/lang/Math" ∈ wsL_law) (w4 : Cond.code Lib.Math.min.name Lib.Math.min.code 2 (some .int) ∈ wsL_law) (hR : 1 ≤ M.2.2.2.2.2.1 ∧ szA st + 13 ≤ M.2.2.2.2.2.2.1) (hcs : cells ≤ M.2.2.2.2.2.2.2.1 ∧ slots ≤ M.2.2.2.2.2.2.2.2)
    (kk : Wq p l e R s m args below meth c D G A H0 sg n0 M x cells slots (pc + 3) lv ((0, miD a b) :: st) h) : Wq p l e R s m args below meth c D G A H0 sg n0 M x cells slots pc lv ((0, b) :: (0, a) :: st) h := by
  intro hC hh hn hlv hst H locs ls hw hS hls
  have hts := hC.2.2.2.2.2.2.2.2.1
  have hRR := hC.2.2.2.2.2.2.1
  have ha : R32 a := hst (0, a) (by simp)
  have hb : R32 b := hst (0, b) (by simp)
  have k2 := kk hC hh hn hlv (stc (v := (0, miD a b)) (by show R32 (miD a b); unfold miD; split <;> assumption) (fun q hq => hst q (by simp [hq]))) H locs ls hw hS hls
  rw [List.map_cons, show cv G.1 (0, miD a b) = .int (if Int32.ofInt b < Int32.ofInt a then Int32.ofInt b else Int32.ofInt a) from by
    unfold miD
    by_cases z : b < a
    · rw [if_pos z, if_pos ((ofI_lt hb ha).mpr z)]; rfl
    · rw [if_neg z, if_neg (fun y => z ((ofI_lt hb ha).mp y))]; rfl] at k2
  exact va_mmin hC.1 hC.2.1 (hC.2.2.1.trans hls.1.symm) hC.2.2.2.1 (hts _ w1) (hts _ w2) (hts _ w3) (hts _ w4) (by rw [hRR]; exact hR.1) (by rw [hRR, cat_sum]; exact hR.2) (by rw [hRR]; exact hcs.1) (by rw [hRR]; exact hcs.2) hd k2
/-- rows of references: one is put (strong heaps) -/
theorem r_rast {o j v : Int} {h1 : hH} (hd : decode M.1 pc = .ok (.aastore, 1)) (hg : aput h o j v = some h1) (hv0 : 0 ≤ v) (kk : Wq p l e R s m args below meth c D G A H0 sg n0 M x cells slots (pc + 1) lv st h1) : Wq p l e R s m args below meth c D G A H0 sg n0 M x cells slots pc lv ((118, v) :: (0, j) :: (54, o) :: st) h := by
  obtain ⟨hj0, hj1, rfl⟩ := aput_some hg
  intro hC hh hn hlv hst H locs ls hw hS hls
  have ho : hT (nn h) 54 o := hst _ (List.mem_cons_of_mem _ (List.mem_cons_of_mem _ List.mem_cons_self))
  have hj : R32 j := hst _ (List.mem_cons_of_mem _ List.mem_cons_self)
  have hv : hT (nn h) 118 v := hst _ List.mem_cons_self
  have hv2 : hT (nn h) (10 + 8) v := hTn (t := 15) (by omega) hv0 hv
  obtain ⟨h0, h1, h2⟩ := kOk (by omega) (by omega) ho
  obtain ⟨g0, g1, g2⟩ := kOk (by omega) (by omega) hv2
  obtain ⟨hin, hcl⟩ := rIn hj hj0 hj1
  have hnn := nn_hup (h := h) (j := j) (v := v) h0
  have hlen9 : hup h o j v o (-1) = h o (-1) := by simp [hup]; omega
  rw [List.map_cons, List.map_cons, List.map_cons, cv_refn G.1 (show 3 ≤ 54 by omega) h0, cv_refn G.1 (show 3 ≤ 118 by omega) hv0]
  refine va_astq (D := D) (f := fun j => if h o (j : Nat) < 0 then none else some (G.1 (h o (j : Nat)).toNat)) (r := (RX8, TX8, 3)) hC.1 hC.2.1 hC.2.2.2.2.2.2.2.2.2.2.1 hw.1 hw.2 hS o.toNat 4 v.toNat 8 (by rw [wld_get h0 h1, h2, cel_row (Or.inl rfl)]) rfl (by rw [wld_get g0 g1, g2, cel_obj (by omega)]) rfl hin hd (fun H1 locs1 hP hD hS1 => ?_)
  have hcel : (G.1 o.toNat, Sum.inl (G.2 54, (h o (-1)).toNat, .inr (.inr (.inr (.inr (va_up (fun j => if h o (j : Nat) < 0 then none else some (G.1 (h o (j : Nat)).toNat)) (Int32.ofInt j).toNatClampNeg (some (G.1 v.toNat)))))))) = ((G.1 o.toNat, cel G (kd o.toNat) (hup h o j v o)) : Nat × va_E) := by
    rw [h2, cel_row (Or.inl rfl), hlen9, hcl]
    congr 8
    funext i
    simp only [va_up, hup, true_and]
    by_cases hi : i = j.toNat
    · have e9 : (i : Int) = j := by omega
      simp only [if_pos hi, if_pos e9]
      rw [if_neg (by omega)]
    · have e9 : ¬ (i : Int) = j := by omega
      simp only [if_neg hi, if_neg e9]
  rw [hcel, wld_set h0 h1] at hP hD
  exact kk hC (hh.putA (by omega) (by omega) ho hj0 hv) (by rw [hnn]; exact hn) (by rw [hnn]; exact hlv) (by rw [hnn]; exact (fun q hq => hst q (List.mem_cons_of_mem _ (List.mem_cons_of_mem _ (List.mem_cons_of_mem _ hq))))) H1 locs1 ls ⟨hP, hD⟩ hS1 hls
end CORE9
