/-! THE MADE HEAP KEEPS WHAT ALL CALLS KEEP -/
def onN (n : Nat) (f : Int → Bool) : Bool := (List.range n).all (fun k => f (k : Int))
theorem onN_at {n : Nat} {f : Int → Bool} (h : onN n f = true) {i : Int} (i0 : 0 ≤ i) (i1 : i.toNat < n) : f i = true := by
  have h1 : f ((i.toNat : Nat) : Int) = true := List.all_eq_true.mp h i.toNat (List.mem_range.mpr i1)
  have h2 : ((i.toNat : Nat) : Int) = i := by omega
  rw [h2] at h1
  exact h1
theorem mk_ref : refT.all (fun q => decide (hM4 q.1 q.2.1 = q.2.2)) = true := by decide +kernel
theorem mk_len : lenT.all (fun q => decide (hM4 q.1 (-1) = q.2)) = true := by decide +kernel
theorem mk_lay : Lay hM4 := ⟨fun q hq => of_decide_eq_true (List.all_eq_true.mp mk_ref q hq), fun q hq => of_decide_eq_true (List.all_eq_true.mp mk_len q hq)⟩
theorem mk_nn : nn hM4 = 225 := by decide +kernel
def mkFl : List (Int × Int × Int) := [(4, 0, 0), (4, 1, 0), (4, 2, 0), (4, 3, 0), (14, 0, 0), (14, 1, 0), (13, 2, 0), (0, 11, 0), (192, 44, 0), (1, 8, 0), (192, 16, 0), (192, 55, 0), (39, 4, 0), (192, 42, 0), (39, 7, 0), (44, 0, 0), (192, 41, 0), (0, 16, 0), (192, 48, -1), (192, 50, 0), (0, 15, 0), (22, 0, 0), (194, 1239, 0), (150, 0, 0), (171, 0, 0), (223, 0, 0), (223, 1, 0), (192, 2, 0), (1, 1, 0)]
theorem mk_fl : mkFl.all (fun q => decide (hM4 q.1 q.2.1 = q.2.2)) = true := by decide +kernel
theorem mf_4_0 : hM4 4 0 = 0 := of_decide_eq_true (List.all_eq_true.mp mk_fl (4, 0, 0) (List.mem_of_getElem? (i := 0) rfl))
theorem mf_4_1 : hM4 4 1 = 0 := of_decide_eq_true (List.all_eq_true.mp mk_fl (4, 1, 0) (List.mem_of_getElem? (i := 1) rfl))
theorem mf_4_2 : hM4 4 2 = 0 := of_decide_eq_true (List.all_eq_true.mp mk_fl (4, 2, 0) (List.mem_of_getElem? (i := 2) rfl))
theorem mf_4_3 : hM4 4 3 = 0 := of_decide_eq_true (List.all_eq_true.mp mk_fl (4, 3, 0) (List.mem_of_getElem? (i := 3) rfl))
theorem mf_14_0 : hM4 14 0 = 0 := of_decide_eq_true (List.all_eq_true.mp mk_fl (14, 0, 0) (List.mem_of_getElem? (i := 4) rfl))
theorem mf_14_1 : hM4 14 1 = 0 := of_decide_eq_true (List.all_eq_true.mp mk_fl (14, 1, 0) (List.mem_of_getElem? (i := 5) rfl))
theorem mf_13_2 : hM4 13 2 = 0 := of_decide_eq_true (List.all_eq_true.mp mk_fl (13, 2, 0) (List.mem_of_getElem? (i := 6) rfl))
theorem mf_0_11 : hM4 0 11 = 0 := of_decide_eq_true (List.all_eq_true.mp mk_fl (0, 11, 0) (List.mem_of_getElem? (i := 7) rfl))
theorem mf_192_44 : hM4 192 44 = 0 := of_decide_eq_true (List.all_eq_true.mp mk_fl (192, 44, 0) (List.mem_of_getElem? (i := 8) rfl))
theorem mf_1_8 : hM4 1 8 = 0 := of_decide_eq_true (List.all_eq_true.mp mk_fl (1, 8, 0) (List.mem_of_getElem? (i := 9) rfl))
theorem mf_192_16 : hM4 192 16 = 0 := of_decide_eq_true (List.all_eq_true.mp mk_fl (192, 16, 0) (List.mem_of_getElem? (i := 10) rfl))
theorem mf_192_55 : hM4 192 55 = 0 := of_decide_eq_true (List.all_eq_true.mp mk_fl (192, 55, 0) (List.mem_of_getElem? (i := 11) rfl))
theorem mf_39_4 : hM4 39 4 = 0 := of_decide_eq_true (List.all_eq_true.mp mk_fl (39, 4, 0) (List.mem_of_getElem? (i := 12) rfl))
theorem mf_192_42 : hM4 192 42 = 0 := of_decide_eq_true (List.all_eq_true.mp mk_fl (192, 42, 0) (List.mem_of_getElem? (i := 13) rfl))
theorem mf_39_7 : hM4 39 7 = 0 := of_decide_eq_true (List.all_eq_true.mp mk_fl (39, 7, 0) (List.mem_of_getElem? (i := 14) rfl))
theorem mf_44_0 : hM4 44 0 = 0 := of_decide_eq_true (List.all_eq_true.mp mk_fl (44, 0, 0) (List.mem_of_getElem? (i := 15) rfl))
theorem mf_192_41 : hM4 192 41 = 0 := of_decide_eq_true (List.all_eq_true.mp mk_fl (192, 41, 0) (List.mem_of_getElem? (i := 16) rfl))
theorem mf_0_16 : hM4 0 16 = 0 := of_decide_eq_true (List.all_eq_true.mp mk_fl (0, 16, 0) (List.mem_of_getElem? (i := 17) rfl))
theorem mf_192_48 : hM4 192 48 = -1 := of_decide_eq_true (List.all_eq_true.mp mk_fl (192, 48, -1) (List.mem_of_getElem? (i := 18) rfl))
theorem mf_192_50 : hM4 192 50 = 0 := of_decide_eq_true (List.all_eq_true.mp mk_fl (192, 50, 0) (List.mem_of_getElem? (i := 19) rfl))
theorem mf_0_15 : hM4 0 15 = 0 := of_decide_eq_true (List.all_eq_true.mp mk_fl (0, 15, 0) (List.mem_of_getElem? (i := 20) rfl))
theorem mf_22_0 : hM4 22 0 = 0 := of_decide_eq_true (List.all_eq_true.mp mk_fl (22, 0, 0) (List.mem_of_getElem? (i := 21) rfl))
theorem mf_194_1239 : hM4 194 1239 = 0 := of_decide_eq_true (List.all_eq_true.mp mk_fl (194, 1239, 0) (List.mem_of_getElem? (i := 22) rfl))
theorem mf_150_0 : hM4 150 0 = 0 := of_decide_eq_true (List.all_eq_true.mp mk_fl (150, 0, 0) (List.mem_of_getElem? (i := 23) rfl))
theorem mf_171_0 : hM4 171 0 = 0 := of_decide_eq_true (List.all_eq_true.mp mk_fl (171, 0, 0) (List.mem_of_getElem? (i := 24) rfl))
theorem mf_223_0 : hM4 223 0 = 0 := of_decide_eq_true (List.all_eq_true.mp mk_fl (223, 0, 0) (List.mem_of_getElem? (i := 25) rfl))
theorem mf_223_1 : hM4 223 1 = 0 := of_decide_eq_true (List.all_eq_true.mp mk_fl (223, 1, 0) (List.mem_of_getElem? (i := 26) rfl))
theorem mf_192_2 : hM4 192 2 = 0 := of_decide_eq_true (List.all_eq_true.mp mk_fl (192, 2, 0) (List.mem_of_getElem? (i := 27) rfl))
theorem mf_1_1 : hM4 1 1 = 0 := of_decide_eq_true (List.all_eq_true.mp mk_fl (1, 1, 0) (List.mem_of_getElem? (i := 28) rfl))
theorem mr_194c : onN 249 (fun i => decide (hM4 194 i = 0)) = true := by decide +kernel
theorem mr_194 {i : Int} (i0 : 0 ≤ i) (i1 : i < 249) : hM4 194 i = 0 := of_decide_eq_true (onN_at (f := fun i => decide (hM4 194 i = 0)) mr_194c i0 (by omega))
theorem mr_8c : onN 16 (fun i => decide (hM4 8 i = 0)) = true := by decide +kernel
theorem mr_8 {i : Int} (i0 : 0 ≤ i) (i1 : i < 16) : hM4 8 i = 0 := of_decide_eq_true (onN_at (f := fun i => decide (hM4 8 i = 0)) mr_8c i0 (by omega))
theorem mr_9c : onN 16 (fun i => decide (hM4 9 i = 0)) = true := by decide +kernel
theorem mr_9 {i : Int} (i0 : 0 ≤ i) (i1 : i < 16) : hM4 9 i = 0 := of_decide_eq_true (onN_at (f := fun i => decide (hM4 9 i = 0)) mr_9c i0 (by omega))
theorem mr_74c : onN 8 (fun i => decide (hM4 74 i = 78 + 9 * i)) = true := by decide +kernel
theorem mr_74 {i : Int} (i0 : 0 ≤ i) (i1 : i < 8) : hM4 74 i = 78 + 9 * i := of_decide_eq_true (onN_at (f := fun i => decide (hM4 74 i = 78 + 9 * i)) mr_74c i0 (by omega))
theorem mr_76c : onN 4 (fun i => decide (hM4 76 i = -1)) = true := by decide +kernel
theorem mr_76 {i : Int} (i0 : 0 ≤ i) (i1 : i < 4) : hM4 76 i = -1 := of_decide_eq_true (onN_at (f := fun i => decide (hM4 76 i = -1)) mr_76c i0 (by omega))
theorem mr_199c : onN 29 (fun i => decide (hM4 199 i = rs256 i)) = true := by decide +kernel
theorem mr_199 {i : Int} (i0 : 0 ≤ i) (i1 : i < 29) : hM4 199 i = rs256 i := of_decide_eq_true (onN_at (f := fun i => decide (hM4 199 i = rs256 i)) mr_199c i0 (by omega))
theorem mk_res : Res0 hM4 := fun i i0 i1 => mr_199 i0 i1
theorem mk_schR : SchR hM4 4 (hM4 194) := by
  have s0 : hM4 194 0 = 0 := mr_194 (by decide) (by decide)
  have s1 : hM4 194 1 = 0 := mr_194 (by decide) (by decide)
  have s2 : hM4 194 2 = 0 := mr_194 (by decide) (by decide)
  have s3 : hM4 194 3 = 0 := mr_194 (by decide) (by decide)
  refine ⟨⟨mf_4_0.trans s0.symm, mf_4_1.trans s1.symm, mf_4_2.trans s2.symm, mf_4_3.trans s3.symm⟩, fun t t0 t1 => ?_, fun i i0 i1 => ?_, fun i i0 i1 => ?_, fun k k0 k1 => ?_, fun f f0 f1 => ?_, fun c c0 c1 => ?_⟩
  · exfalso; omega
  · rw [show (4 : Int) + 4 = 8 from rfl]
    exact (mr_8 i0 i1).trans (mr_194 (by omega) (by omega)).symm
  · rw [show (4 : Int) + 5 = 9 from rfl]
    exact (mr_9 i0 i1).trans (mr_194 (by omega) (by omega)).symm
  · exfalso; omega
  · exfalso; omega
  · exfalso; omega
theorem mk_sok : SOk (hM4 194) := by
  have s0 : hM4 194 0 = 0 := mr_194 (by decide) (by decide)
  have s1 : hM4 194 1 = 0 := mr_194 (by decide) (by decide)
  have s2 : hM4 194 2 = 0 := mr_194 (by decide) (by decide)
  have s3 : hM4 194 3 = 0 := mr_194 (by decide) (by decide)
  refine ⟨⟨by omega, by omega⟩, ⟨by omega, by omega⟩, ⟨by omega, by omega⟩, ⟨by omega, by omega⟩, fun t t0 t1 => ?_, fun i i0 i1 => ?_, fun i i0 i1 => ?_, fun k k0 k1 => ?_, fun f f0 f1 => ?_, fun c c0 c1 => ?_⟩
  · exfalso; omega
  · have := mr_194 (i := 8 + i) (by omega) (by omega)
    exact ⟨by omega, by omega⟩
  · exact Or.inl (mr_194 (by omega) (by omega))
  · exfalso; omega
  · exfalso; omega
  · exfalso; omega
theorem mk_rows : RowsS hM4 14 (hM4 194) := by
  have a0 := mf_14_0
  refine ⟨by omega, by omega, fun i i0 i1 => ?_, fun i j i0 i1 i2 => ?_, fun q q0 q1 => Or.inl (mr_194 (by omega) (by omega)), fun q q0 q1 q2 => ?_⟩
  · exfalso; omega
  · exfalso; omega
  · have q3 : hM4 194 (150 + q) = 1 := q2
    have q4 := mr_194 (i := 150 + q) (by omega) (by omega)
    exfalso; omega
theorem mk_stok : StOk (hM4 194) := by
  have s8 : hM4 194 148 = 0 := mr_194 (by decide) (by decide)
  have s9 : hM4 194 149 = 0 := mr_194 (by decide) (by decide)
  refine ⟨⟨by omega, by omega⟩, Or.inl s9, fun q q0 q1 q2 => ?_, fun q q0 q1 q2 => ?_, fun q q0 q1 => Or.inl (mr_194 (by omega) (by omega)), by decide +kernel, fun z => ?_⟩
  · have q4 := mr_194 (i := 150 + q) (by omega) (by omega)
    exfalso; omega
  · have q4 := mr_194 (i := 150 + q) (by omega) (by omega)
    exfalso; omega
  · exfalso; omega
theorem mk_sti : StI hM4 := by
  have s8 : hM4 194 148 = 0 := mr_194 (by decide) (by decide)
  have s9 : hM4 194 149 = 0 := mr_194 (by decide) (by decide)
  refine ⟨⟨mk_rows, mf_14_1.trans s8.symm, mf_13_2.trans s9.symm, fun z => ?_⟩, mk_stok⟩
  exfalso; omega
theorem mk_und : UndI hM4 := ⟨0, ⟨mf_0_11, by decide, by decide, fun j j0 j1 => ⟨j.toNat, by omega, by rw [mr_74 j0 j1]; omega⟩, fun i j i0 i1 i2 => by rw [mr_74 i0 (by omega), mr_74 (by omega) i2]; omega, fun j j0 j1 => by exfalso; omega⟩, mf_192_44, fun j j0 j1 => by exfalso; omega⟩
theorem mk_nam : NamR hM4 hM4 4 0 (hM4 194) := by
  have s0 : hM4 194 0 = 0 := mr_194 (by decide) (by decide)
  exact ⟨fun t t0 t1 => by exfalso; omega, fun t k t0 t1 k0 k1 => by exfalso; omega⟩
theorem mk_lat : LatV hM4 := ⟨[], ⟨by rw [mf_44_0]; rfl, fun i x hx => by simp at hx⟩, by decide, fun x hx => absurd hx List.not_mem_nil, by rw [mf_192_41]; rfl, fun i x hx => by simp at hx⟩
theorem mk_tag : TagI hM4 := by
  have a0 := mf_0_15
  refine ⟨mf_192_50.trans mf_0_15.symm, by omega, by omega, fun i i0 i1 => ?_⟩
  exfalso; omega
theorem mk_inv : Inv hM4 := ⟨mk_lay, ⟨TapeR.z mf_192_2 mf_1_1, mk_res⟩, ⟨⟨mk_schR, mk_sok⟩, mk_sti, mk_und, mk_nam⟩, ⟨mf_1_8.trans mf_192_16.symm, Or.inl ⟨mf_192_55, fun j j0 j1 => mr_76 j0 j1⟩, Or.inl ⟨mf_39_4, mf_192_42, mf_39_7⟩, mk_lat⟩, Or.inl ⟨mf_0_16, mf_192_48⟩, mk_tag, Or.inl ⟨mf_22_0, mf_194_1239⟩, ⟨Or.inl ⟨mf_150_0, mf_223_0⟩, Or.inl ⟨mf_171_0, mf_223_1⟩⟩⟩
theorem mk_nul : (List.range 225).all (fun k => decide (50 ≤ kd k) || (List.range (nf (kd k - 10))).all (fun j => decide (fT true (kd k - 10) j < 10) || decide (0 ≤ hM4 (k : Int) (j : Int)))) = true := by decide +kernel
theorem fTl_lt : ∀ l ∈ fTl, ∀ t ∈ l, t < 100 := by decide +kernel
theorem fT_t (ci j : Nat) : fT true ci j = (fTl.getD ci []).getD j 0 := by
  have h : ¬ (true = false ∧ 10 ≤ (fTl.getD ci []).getD j 0) := fun z => by cases z.1
  show (if true = false ∧ 10 ≤ (fTl.getD ci []).getD j 0 then (fTl.getD ci []).getD j 0 + 100 else (fTl.getD ci []).getD j 0) = (fTl.getD ci []).getD j 0
  exact if_neg h
theorem fT_f (ci j : Nat) (h : 10 ≤ (fTl.getD ci []).getD j 0) : fT false ci j = (fTl.getD ci []).getD j 0 + 100 := if_pos ⟨rfl, h⟩
theorem fT_f2 (ci j : Nat) (h : ¬ 10 ≤ (fTl.getD ci []).getD j 0) : fT false ci j = (fTl.getD ci []).getD j 0 := if_neg (fun z => h z.2)
theorem fT_lt (ci j : Nat) : fT true ci j < 100 := by
  rw [fT_t]
  rw [List.getD_eq_getElem?_getD, List.getD_eq_getElem?_getD]
  cases h1 : fTl[ci]? with
  | none => simp
  | some l =>
    simp only [Option.getD_some]
    cases h2 : l[j]? with
    | none => simp
    | some t =>
      simp only [Option.getD_some]
      exact fTl_lt l (List.mem_of_getElem? h1) t (List.mem_of_getElem? h2)
theorem mk_ok (hh : hOk false hM4) : hOk true hM4 := by
  refine ⟨hh.1, hh.2.1, fun k hk => ?_⟩
  have hc := hh.2.2 k hk
  unfold cOk at hc ⊢
  by_cases ht : 50 ≤ kd k
  · rw [if_pos ht] at hc ⊢
    exact hc
  · rw [if_neg ht] at hc ⊢
    intro j hj
    have h1 := hc j hj
    have hk2 : k < 225 := by rw [mk_nn] at hk; omega
    by_cases h10 : 10 ≤ fT true (kd k - 10) j
    · have e : fT false (kd k - 10) j = fT true (kd k - 10) j + 100 := by
        rw [fT_t] at h10 ⊢
        exact fT_f _ _ h10
      have h2 : (decide (50 ≤ kd k) || (List.range (nf (kd k - 10))).all (fun j => decide (fT true (kd k - 10) j < 10) || decide (0 ≤ hM4 (k : Int) (j : Int)))) = true := List.all_eq_true.mp mk_nul k (List.mem_range.mpr hk2)
      rw [Bool.or_eq_true] at h2
      have h3 : (decide (fT true (kd k - 10) j < 10) || decide (0 ≤ hM4 (k : Int) (j : Int))) = true := List.all_eq_true.mp (h2.resolve_left (fun z => ht (of_decide_eq_true z))) j (List.mem_range.mpr hj)
      rw [Bool.or_eq_true] at h3
      have h4 : 0 ≤ hM4 (k : Int) (j : Int) := of_decide_eq_true (h3.resolve_left (fun z => by have := of_decide_eq_true z; omega))
      rw [e] at h1
      have h5 : fT true (kd k - 10) j < 100 := fT_lt _ _
      generalize fT true (kd k - 10) j = t at h10 h1 h5 ⊢
      obtain ⟨u, rfl⟩ : ∃ u, t = u + 3 := ⟨t - 3, by omega⟩
      exact hTn h5 h4 h1
    · have e : fT false (kd k - 10) j = fT true (kd k - 10) j := by
        rw [fT_t] at h10 ⊢
        exact fT_f2 _ _ h10
      rw [e] at h1
      exact h1
