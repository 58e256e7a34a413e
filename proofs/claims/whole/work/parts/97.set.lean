/-! READING LINES: SET, both ways -/
section SIM
variable {B : Int → Int} {L M n : Int} {K A V E : Int → Int}
theorem b59_fail {c : hH} {i t l4 x v : Int} (hL : Lay c) (h : c 1 8 ≠ 0) : fX2_readSets_b59 c 37 i t l4 x v = some (.inr (0, c)) := by
  unfold fX2_readSets_b59
  rw [ly_37_0 hL, if_neg h]
theorem b59_ok {c : hH} {i t l4 x v : Int} (hL : Lay c) (h : c 1 8 = 0) (i0 : 0 ≤ i) (i1 : i < 40) (l0 : 0 ≤ l4) (l1 : l4 < 2) : fX2_readSets_b59 c 37 i t l4 x v = some (.inl (hup (hup c 38 (19 * i + (3 + 2 * l4)) x) 38 (19 * i + (3 + 2 * l4 + 1)) v, x, l4 + 1)) := by
  have L1 : Lay (hup c 38 (19 * i + (3 + 2 * l4)) x) := (Fr.up (C := lnC) (by unfold lnC; simp; omega)).lay hL lnC_1 lnC_2
  unfold fX2_readSets_b59
  rw [ly_37_0 hL, if_pos h, w32_id (x := 2 * l4) (by omega) (by omega), w32_id (x := 3 + 2 * l4) (by omega) (by omega), w32_id (x := 3 + 2 * l4 + 1) (by omega) (by omega), setPart_ok hL i0 i1 (by omega) (by omega)]
  simp only [Option.bind_some]
  rw [setPart_ok L1 i0 i1 (by omega) (by omega), w1 (i := l4) (by omega) (by omega)]
  rfl
theorem b27_fail {c c1 : hH} {i t u l4 k a : Int} (hL : Lay c) (hL1 : Lay c1) (h : fX9_colHere c 1 4 t u = some (-1, c1)) (hf : FRc k a c1) (hk : 1 ≤ k) : fX2_readSets_b27 c 37 i t u l4 = some (.inr (0, c1)) := by
  unfold fX2_readSets_b27 fX9_takeCol
  rw [ly_37_0 hL, ly_37_1 hL, h]
  simp only [Option.bind_some, if_true]
  exact b59_fail hL1 (by rw [hf.1]; omega)
theorem b27_ok {c c2 c3 : hH} {i t u l4 x v : Int} (hL : Lay c) (hL2 : Lay c2) (h : fX9_colHere c 1 4 t u = some (x, c)) (hx : x ≠ -1) (hs : fX9_step c 1 = some c2) (hv : fX9_takeValue c2 1 = some (v, c3)) : fX2_readSets_b27 c 37 i t u l4 = fX2_readSets_b59 c3 37 i t l4 x v := by
  unfold fX2_readSets_b27 fX9_takeCol
  rw [ly_37_0 hL, ly_37_1 hL, h]
  simp only [Option.bind_some]
  rw [if_neg hx, hs]
  simp only [Option.bind_some]
  rw [if_neg hx, ly_37_0 hL2, hv]
  rfl
theorem set2 {c g : hH} {i to t j : Int} (hC : Chain B L M n K A V E) (i0 : 0 ≤ i) (i1 : i < 40) (t0 : 0 ≤ to) (t1 : to + 20 ≤ 800) (ht : 0 ≤ t ∧ t < g 194 0) (hc : SC n K A V j c) (hg : SM B L M n K A V E j g) (hD : PI c g) (hS : ST 2 t i to c g) (e8 : c 1 8 = 0) : ∃ b b' c' g', setC c i t = some (b, c') ∧ setM g to = some (b', g') ∧ LX B L M n K A V E (g 194) i to j c g b b' c' g' := by
  obtain ⟨⟨s1, s2, s3, s4⟩, s5, s6, s7, s8⟩ := hS
  have c145 : c 38 (19 * i) = 145 := by rw [s1, if_neg (by decide), if_neg (by decide)]
  obtain ⟨x, b, c1, g1, p1, p2, p3⟩ := looksCol2 (u := -1) hc hg hD ht.1 ht.2 (Int.le_refl _)
  have s5s : ∀ y : hH × Int × Int → Option ((hH × Int × Int) ⊕ (Int × hH)), True := fun _ => trivial
  -- the first turn of the class's loop
  have turn1 : fX2_readSets_s5 c 37 i t (c, -1, 0) = fX2_readSets_b27 c 37 i t (-1) 0 := by
    unfold fX2_readSets_s5
    dsimp only
    rw [if_pos (by decide), if_pos rfl]
  have endC : ∀ c', fX2_readSets_s5 c 37 i t (c, -1, 0) = some (.inr (0, c')) → setC c i t = some (0, c') := fun c' h => by
    unfold setC fX2_readSets
    rw [lpO_inr h]
    simp only [Option.bind_some, if_true]
  have hm1 : setM g to = if b = 0 then some (0, g1) else (aput g1 (g1 192 9) (w32 (to + 3)) (g1 192 19)).bind fun h51 => (fX12_next h51 192).bind fun h53 => (fX12_takesValue h53 192 (w32 (to + 4))).bind fun q60 => if q60.1 = 0 then some (0, q60.2) else (aput q60.2 (q60.2 192 9) (w32 (to + 2)) 1).bind fun h76 => setM2 h76 to t := by
    unfold setM
    rw [w32_id (x := to + 1) (by omega) (by omega), row197 hg.1.1 (by omega) (by omega), s6]
    simp only [Option.bind_some]
    rw [p2]
    simp only [Option.bind_some]
  rcases p3 with ⟨rfl, rfl, ⟨k, a, f1, f2, f3⟩, fc, fg⟩ | ⟨_, _, z, _⟩ | ⟨hx, hne, rfl, e19, ec, U1, fg, kj⟩
  · refine ⟨0, 0, c1, g1, endC c1 (by rw [turn1]; exact b27_fail hc.1 (fc.lay hc.1 tkF_lay1 tkF_lay2) p1 f1 f3), by rw [hm1, if_pos rfl], fc.mono (fun a b z => tk_ln z), fg.mono (fun a b z => tx_ln z), Or.inl ⟨rfl, rfl, k, a, f1, f2, f3⟩⟩
  · omega
  rw [ec] at p1
  obtain ⟨c2, k1, k2, k3, k4, -⟩ := stepC hC hc
  have U2 := U1.up197 (b := to + 3) (v := x) (by omega)
  obtain ⟨g2, m1, m2, m3⟩ := nextM hC U2
  rw [if_neg (show ¬ (1 : Int) = 0 by decide), e19, w32_id (x := to + 3) (by omega) (by omega), put197 U1.1.1 (by omega) (by omega)] at hm1
  simp only [Option.bind_some] at hm1
  rw [m1, w32_id (x := to + 4) (by omega) (by omega), w32_id (x := to + 2) (by omega) (by omega)] at hm1
  simp only [Option.bind_some] at hm1
  have fg2 : Fr lnM g g2 := (fg.mono (fun a b z => tx_ln z)).tr ((Fr.up (by unfold lnM; simp; omega)).tr (m3.mono (fun a b z => tx_ln (nx_tx z))))
  have w2 : ∀ q, g2 197 q = if q = to + 3 then x else g 197 q := fun q => by
    rw [txF_row (m3.mono (fun a b z => nx_tx z)) (by decide), hup_row, txF_row fg (by decide)]
    rfl
  have jle := @nx_le n j
  obtain ⟨v, bv, c3, g3, v1, v2, v3, v4, v5⟩ := value2 (a := to + 4) hC k2 m2 (by omega) (by omega)
  rw [v2] at hm1
  simp only [Option.bind_some] at hm1
  have L3 : Lay c3 := v3.lay k2.1 tkF_lay1 tkF_lay2
  rw [b27_ok hc.1 k2.1 p1 (by omega) k1 v1] at turn1
  have fc3 : Fr tkF c c3 := k3.tr v3
  rcases v5 with ⟨rfl, rfl, k, a, f1, f2, f3⟩ | ⟨hv, rfl, S3, U3, e83, w3⟩
  · rw [b59_fail L3 (by rw [f1.1]; omega)] at turn1
    exact ⟨0, 0, c3, g3, endC c3 turn1, by rw [hm1, if_pos rfl], fc3.mono (fun a b z => tk_ln z), fg2.tr v4, Or.inl ⟨rfl, rfl, k, a, f1, f2, f3⟩⟩
  have e83' : c3 1 8 = 0 := by rw [e83, k4]; exact e8
  rw [b59_ok L3 e83' i0 i1 (by decide) (by decide), show (0 : Int) + 1 = 1 from rfl] at turn1
  rw [if_neg (show ¬ (1 : Int) = 0 by decide), put197 U3.1.1 (by omega) (by omega)] at hm1
  simp only [Option.bind_some] at hm1
  have S4 : SC n K A V (nx n (nx n j)) (hup (hup c3 38 (19 * i + (3 + 2 * 0)) x) 38 (19 * i + (3 + 2 * 0 + 1)) v) := (S3.up38 (by omega)).up38 (by omega)
  have U4 := U3.up197 (b := to + 2) (v := 1) (by omega)
  generalize hc4 : hup (hup c3 38 (19 * i + (3 + 2 * 0)) x) 38 (19 * i + (3 + 2 * 0 + 1)) v = c4 at turn1 S4
  generalize hg4 : hup g3 197 (to + 2) 1 = g4 at hm1 U4
  have wc4 : ∀ q, c4 38 q = if q = 19 * i + 4 then v else if q = 19 * i + 3 then x else c 38 q := fun q => by
    rw [← hc4, hup_row, hup_row, tkF_row fc3 (by decide)]
    rfl
  have oc4 : ∀ a, a ≠ 38 → c4 a = c3 a := fun a ha => by rw [← hc4, hup_off ha, hup_off ha]
  have wg4 : ∀ q, g4 197 q = if q = to + 2 then 1 else if q = to + 4 then v else if q = to + 3 then x else g 197 q := fun q => by
    rw [← hg4, hup_row]
    unfold up1
    rw [w3, w2]
  have fc4 : Fr lnC c c4 := (fc3.mono (fun a b z => tk_ln z)).tr (by rw [← hc4]; exact (Fr.up (by unfold lnC; simp; omega)).tr (Fr.up (by unfold lnC; simp; omega)))
  have fg4 : Fr lnM g g4 := fg2.tr (v4.tr (by rw [← hg4]; exact Fr.up (by unfold lnM; simp; omega)))
  have hD4 : PI c4 g4 := hD.ln fc4 fg4
  have e84 : c4 1 8 = 0 := by rw [oc4 1 (by decide)]; exact e83'
  have r194 : g4 194 = g 194 := lnM_row fg4 (by decide) (by decide)
  have jle2 := @nx_le n (nx n j)
  generalize hj4 : nx n (nx n j) = j4 at *
  have Ac : c4 38 (19 * i) = 145 ∧ c4 38 (19 * i + 1) = t ∧ c4 38 (19 * i + 2) = 0 ∧ c4 38 (19 * i + 3) = x ∧ c4 38 (19 * i + 4) = v ∧ c4 38 (19 * i + 5) = -1 := ⟨by rw [wc4, if_neg (by omega), if_neg (by omega)]; exact c145, by rw [wc4, if_neg (by omega), if_neg (by omega)]; exact s2, by rw [wc4, if_neg (by omega), if_neg (by omega)]; exact s3, by rw [wc4, if_neg (by omega), if_pos rfl], by rw [wc4, if_pos rfl], by rw [wc4, if_neg (by omega), if_neg (by omega)]; exact s4 5 (by decide) (by decide)⟩
  have G : g4 197 to = 2 ∧ g4 197 (to + 1) = t ∧ g4 197 (to + 2) = 1 ∧ g4 197 (to + 3) = x ∧ g4 197 (to + 4) = v ∧ g4 197 (to + 7) = 0 := ⟨by rw [wg4, if_neg (by omega), if_neg (by omega), if_neg (by omega)]; exact s5, by rw [wg4, if_neg (by omega), if_neg (by omega), if_neg (by omega)]; exact s6, by rw [wg4, if_pos rfl], by rw [wg4, if_neg (by omega), if_neg (by omega), if_pos rfl], by rw [wg4, if_neg (by omega), if_pos rfl], by rw [wg4, if_neg (by omega), if_neg (by omega), if_neg (by omega)]; exact s8⟩
  -- when the class goes on to the conditions from a state, and the model too
  have conc : ∀ (cc gg : hH) (m x2 v2 jj : Int), (fX2_readSets c 37 i t = some (1, cc)) → setM g to = fX12_takesSet_b164 gg 192 to → SC n K A V jj cc → SM B L M n K A V E jj gg → Fr lnC c cc → Fr lnM g gg → cc 1 8 = 0 → j ≤ jj →
      (cc 38 (19 * i) = 145 ∧ cc 38 (19 * i + 1) = t ∧ cc 38 (19 * i + 2) = 0 ∧ cc 38 (19 * i + 3) = x ∧ cc 38 (19 * i + 4) = v) → (gg 197 to = 2 ∧ gg 197 (to + 1) = t ∧ gg 197 (to + 2) = m ∧ gg 197 (to + 3) = x ∧ gg 197 (to + 4) = v ∧ gg 197 (to + 7) = 0) →
      ((m = 1 ∧ cc 38 (19 * i + 5) = -1) ∨ (m = 2 ∧ cc 38 (19 * i + 5) = x2 ∧ cc 38 (19 * i + 6) = v2 ∧ gg 197 (to + 5) = x2 ∧ gg 197 (to + 6) = v2 ∧ (0 ≤ x2 ∧ x2 < g 194 (4 + t)) ∧ x2 ≠ x ∧ -1 ≤ v2 ∧ v2 ≤ 99)) → LO2 i to c g cc gg →
      ∃ b b' c' g', setC c i t = some (b, c') ∧ setM g to = some (b', g') ∧ LX B L M n K A V E (g 194) i to j c g b b' c' g' := fun cc gg m x2 v2 jj h1 h2 h3 h4 h5 h6 h7 h8 h9 h10 h11 h12 => by
    have r : gg 194 = g 194 := lnM_row h6 (by decide) (by decide)
    obtain ⟨b, b', c', g', y1, y2, y3, y4⟩ := setFin (c0 := c) (g0 := g) (j0 := j) hC i0 i1 t0 t1 (by rw [r]; exact ht) h3 h4 (hD.ln h5 h6) h7 h5 h6 h8 h9.1 h9.2.1 h9.2.2.1 h9.2.2.2.1 h9.2.2.2.2 h10.1 h10.2.1 h10.2.2.1 h10.2.2.2.1 h10.2.2.2.2.1 h10.2.2.2.2.2 (by rw [r]; exact hx) hv (by rw [r]; exact h11) h12
    rw [r] at y4
    refine ⟨b, b', c', g', ?_, by rw [h2]; unfold fX12_takesSet_b164; rw [y2]; rfl, y4⟩
    unfold setC
    rw [h1]
    simp only [Option.bind_some]
    rw [if_neg (show ¬ (1 : Int) = 0 by decide), y1]
    simp only [Option.bind_some]
    rcases y3 with rfl | rfl
    · rw [if_pos rfl]
    · rw [if_neg (show ¬ (1 : Int) = 0 by decide)]
  have hsets : fX2_readSets c 37 i t = lpO (fX2_readSets_s5 c 37 i t) (c4, x, 1) := by
    unfold fX2_readSets
    rw [lpO_inl turn1]
  have turn2 : fX2_readSets_s5 c 37 i t (c4, x, 1) = if K j4 = 4 then fX2_readSets_b27 c4 37 i t x 1 else some (.inr (1, c4)) := by
    unfold fX2_readSets_s5
    dsimp only
    rw [if_pos (by decide), if_neg (by decide), ly_37_0 S4.1, S4.k]
  have k12 : g4 192 12 = 1 ↔ K j4 = 4 ∨ (128 ≤ K j4 ∧ K j4 < 157) := U4.tok.2.2.2.2.2.1
  by_cases z4 : K j4 = 4
  · -- a second column
    rw [if_pos z4] at turn2
    obtain ⟨x2, b5, c5, g5, q1, q2, q3⟩ := looksCol2 (u := x) S4 U4 hD4 ht.1 (by rw [r194]; exact ht.2) (by omega)
    have hm2 : setM2 g4 to t = if b5 = 0 then some (0, g5) else (aget g5 (g5 192 9) (w32 (to + 3))).bind fun v116 => if g5 192 19 = v116 then (fX12_bad g5 192 3).bind fun q122 => some (q122.1, q122.2) else (aput g5 (g5 192 9) (w32 (to + 5)) (g5 192 19)).bind fun h137 => (fX12_next h137 192).bind fun h139 => (fX12_takesValue h139 192 (w32 (to + 6))).bind fun q147 => if q147.1 = 0 then some (0, q147.2) else (aput q147.2 (q147.2 192 9) (w32 (to + 2)) 2).bind fun h163 => fX12_takesSet_b164 h163 192 to := by
      unfold setM2
      rw [if_pos (k12.mpr (Or.inl z4)), no_w.2.1, isWordM U4 (by decide) (by decide)]
      simp only [Option.bind_some]
      rw [if_neg (show ¬ K j4 = 128 + 15 by omega), if_pos rfl, q2]
      rfl
    rw [hm2] at hm1
    have endC2 : ∀ c', fX2_readSets_b27 c4 37 i t x 1 = some (.inr (0, c')) → setC c i t = some (0, c') := fun c' h => by
      unfold setC
      rw [hsets, lpO_inr (turn2.trans h)]
      simp only [Option.bind_some, if_true]
    rcases q3 with ⟨rfl, rfl, ⟨k, a, f1, f2, f3⟩, fc, fg'⟩ | ⟨rfl, rfl, _, eu, f, fc, fg', U5⟩ | ⟨hx2, hne2, rfl, e19', ec', U5, fg', kj'⟩
    · exact ⟨0, 0, c5, g5, endC2 c5 (b27_fail S4.1 (fc.lay S4.1 tkF_lay1 tkF_lay2) q1 f1 f3), by rw [hm1, if_pos rfl], fc4.tr (fc.mono (fun a b z => tk_ln z)), fg4.tr (fg'.mono (fun a b z => tx_ln z)), Or.inl ⟨rfl, rfl, k, a, f1, f2, f3⟩⟩
    · obtain ⟨g6, f1, f2, f3⟩ := badM (k := 3) U5
      have r3 : g5 197 (to + 3) = x := by rw [txF_row fg' (by decide)]; exact G.2.2.2.1
      rw [if_neg (show ¬ (1 : Int) = 0 by decide), w32_id (x := to + 3) (by omega) (by omega), row197 U5.1.1 (by omega) (by omega), r3, eu, f1] at hm1
      simp only [Option.bind_some, if_true] at hm1
      exact ⟨0, 0, c5, g6, endC2 c5 (b27_fail S4.1 (fc.lay S4.1 tkF_lay1 tkF_lay2) q1 f (by decide)), hm1, fc4.tr (fc.mono (fun a b z => tk_ln z)), fg4.tr ((fg'.tr f3).mono (fun a b z => tx_ln z)), Or.inl ⟨rfl, rfl, 3, A j4, f, f2, by decide⟩⟩
    · rw [ec'] at q1
      have r3 : g5 197 (to + 3) = x := by rw [txF_row fg' (by decide)]; exact G.2.2.2.1
      rw [if_neg (show ¬ (1 : Int) = 0 by decide), w32_id (x := to + 3) (by omega) (by omega), row197 U5.1.1 (by omega) (by omega), r3, e19'] at hm1
      simp only [Option.bind_some] at hm1
      rw [if_neg hne2, w32_id (x := to + 5) (by omega) (by omega), w32_id (x := to + 6) (by omega) (by omega), w32_id (x := to + 2) (by omega) (by omega), put197 U5.1.1 (by omega) (by omega)] at hm1
      simp only [Option.bind_some] at hm1
      obtain ⟨c6, k1', k2', k3', k4', -⟩ := stepC hC S4
      have U6 := U5.up197 (b := to + 5) (v := x2) (by omega)
      obtain ⟨g7, m1', m2', m3'⟩ := nextM hC U6
      rw [m1'] at hm1
      simp only [Option.bind_some] at hm1
      have fg7 : Fr lnM g4 g7 := (fg'.mono (fun a b z => tx_ln z)).tr ((Fr.up (by unfold lnM; simp; omega)).tr (m3'.mono (fun a b z => tx_ln (nx_tx z))))
      have w7 : ∀ q, g7 197 q = if q = to + 5 then x2 else g4 197 q := fun q => by
        rw [txF_row (m3'.mono (fun a b z => nx_tx z)) (by decide), hup_row, txF_row fg' (by decide)]
        rfl
      obtain ⟨y, by', c8, g8, v1', v2', v3', v4', v5'⟩ := value2 (a := to + 6) hC k2' m2' (by omega) (by omega)
      rw [v2'] at hm1
      simp only [Option.bind_some] at hm1
      have L8 : Lay c8 := v3'.lay k2'.1 tkF_lay1 tkF_lay2
      rw [r194] at hx2
      have hb := b27_ok (i := i) (l4 := 1) S4.1 k2'.1 q1 (by omega) k1' v1'
      have fc8 : Fr tkF c4 c8 := k3'.tr v3'
      rcases v5' with ⟨rfl, rfl, k, a, f1, f2, f3⟩ | ⟨hv', rfl, S8, U8, e88, w8⟩
      · rw [b59_fail L8 (by rw [f1.1]; omega)] at hb
        exact ⟨0, 0, c8, g8, endC2 c8 hb, by rw [hm1, if_pos rfl], fc4.tr (fc8.mono (fun a b z => tk_ln z)), fg4.tr (fg7.tr v4'), Or.inl ⟨rfl, rfl, k, a, f1, f2, f3⟩⟩
      · have e88' : c8 1 8 = 0 := by rw [e88, k4']; exact e84
        rw [b59_ok L8 e88' i0 i1 (by decide) (by decide)] at hb
        rw [if_neg (show ¬ (1 : Int) = 0 by decide), put197 U8.1.1 (by omega) (by omega)] at hm1
        simp only [Option.bind_some] at hm1
        have S9 : SC n K A V (nx n (nx n j4)) (hup (hup c8 38 (19 * i + (3 + 2 * 1)) x2) 38 (19 * i + (3 + 2 * 1 + 1)) y) := (S8.up38 (by omega)).up38 (by omega)
        have U9 := U8.up197 (b := to + 2) (v := 2) (by omega)
        generalize hc9 : hup (hup c8 38 (19 * i + (3 + 2 * 1)) x2) 38 (19 * i + (3 + 2 * 1 + 1)) y = c9 at hb S9
        have wc9 : ∀ q, c9 38 q = if q = 19 * i + 6 then y else if q = 19 * i + 5 then x2 else c4 38 q := fun q => by
          rw [← hc9, hup_row, hup_row, tkF_row fc8 (by decide)]
          rfl
        have wg9 : ∀ q, hup g8 197 (to + 2) 2 197 q = if q = to + 2 then 2 else if q = to + 6 then y else if q = to + 5 then x2 else g4 197 q := fun q => by
          rw [hup_row]
          unfold up1
          rw [w8, w7]
        have fc9 : Fr lnC c4 c9 := (fc8.mono (fun a b z => tk_ln z)).tr (by rw [← hc9]; exact (Fr.up (by unfold lnC; simp; omega)).tr (Fr.up (by unfold lnC; simp; omega)))
        have turn3 : fX2_readSets_s5 c 37 i t (c9, x2, 1 + 1) = some (.inr (1, c9)) := by
          unfold fX2_readSets_s5
          dsimp only
          rw [if_neg (by decide)]
        have jle3 := @nx_le n j4
        have jle4 := @nx_le n (nx n j4)
        exact conc c9 _ 2 x2 y _ (by rw [hsets, lpO_inl (turn2.trans hb), lpO_inr turn3]) hm1 S9 U9 (fc4.tr fc9) (fg4.tr (fg7.tr (v4'.tr (Fr.up (by unfold lnM; simp; omega))))) (by rw [← hc9, hup_off (by decide), hup_off (by decide)]; exact e88') (by omega)
          ⟨by rw [wc9, if_neg (by omega), if_neg (by omega)]; exact Ac.1, by rw [wc9, if_neg (by omega), if_neg (by omega)]; exact Ac.2.1, by rw [wc9, if_neg (by omega), if_neg (by omega)]; exact Ac.2.2.1, by rw [wc9, if_neg (by omega), if_neg (by omega)]; exact Ac.2.2.2.1, by rw [wc9, if_neg (by omega), if_neg (by omega)]; exact Ac.2.2.2.2.1⟩
          ⟨by rw [wg9, if_neg (by omega), if_neg (by omega), if_neg (by omega)]; exact G.1, by rw [wg9, if_neg (by omega), if_neg (by omega), if_neg (by omega)]; exact G.2.1, by rw [wg9, if_pos rfl], by rw [wg9, if_neg (by omega), if_neg (by omega), if_neg (by omega)]; exact G.2.2.2.1, by rw [wg9, if_neg (by omega), if_neg (by omega), if_neg (by omega)]; exact G.2.2.2.2.1, by rw [wg9, if_neg (by omega), if_neg (by omega), if_neg (by omega)]; exact G.2.2.2.2.2⟩
          (Or.inr ⟨rfl, by rw [wc9, if_neg (by omega), if_pos rfl], by rw [wc9, if_pos rfl], by rw [wg9, if_neg (by omega), if_neg (by omega), if_pos rfl], by rw [wg9, if_neg (by omega), if_pos rfl], hx2, hne2, hv'.1, hv'.2⟩)
          ⟨fun b hb => by rw [wc9, if_neg (by omega), if_neg (by omega), wc4, if_neg (by omega), if_neg (by omega)], fun b hb => by rw [wg9, if_neg (by omega), if_neg (by omega), if_neg (by omega), wg4, if_neg (by omega), if_neg (by omega), if_neg (by omega)]⟩
  · rw [if_neg z4] at turn2
    have hse : fX2_readSets c 37 i t = some (1, c4) := by rw [hsets, lpO_inr turn2]
    by_cases zw : 128 ≤ K j4 ∧ K j4 < 157 ∧ K j4 ≠ 143
    · -- a word that is no name: the class ends the line, the model has failed
      have hro : fX2_readConds c4 37 i t = some (1, c4) := by
        unfold fX2_readConds fX9_option
        rw [ly_37_0 S4.1, S4.k, if_neg (show ¬ K j4 = 143 from zw.2.2)]
        simp only [Option.bind_some, if_true]
      obtain ⟨x2, b5, c5, g5, q1, q2, q3⟩ := looksCol2 (u := -1) S4 U4 hD4 ht.1 (by rw [r194]; exact ht.2) (Int.le_refl _)
      obtain ⟨b6, g6, y1, y2, y3⟩ := looks_m (from_ := 4 + 4 * t) (m := g 194 (4 + t)) U4 (-1) (fun z => absurd z z4)
      have h0 := hD.2.2.1.1
      have hl : fX12_looksAtCol g4 192 t = some (b6, g6) := by
        unfold fX12_looksAtCol
        rw [w32_id (x := 4 + t) (by omega) (by omega), w32_id (x := 4 * t) (by omega) (by omega), w32_id (x := 4 + 4 * t) (by omega) (by omega), row194 U4.1.1 (by omega) (by omega), r194]
        simp only [Option.bind_some]
        rw [y1]
        rfl
      rcases y3 with ⟨-, rfl, f⟩ | ⟨z, -⟩ | ⟨z, -⟩
      · have hm2 : setM2 g4 to t = some (0, g6) := by
          unfold setM2
          rw [if_pos (k12.mpr (Or.inr ⟨zw.1, zw.2.1⟩)), no_w.2.1, isWordM U4 (by decide) (by decide)]
          simp only [Option.bind_some]
          rw [if_neg (show ¬ K j4 = 128 + 15 by omega), if_pos rfl, hl]
          simp only [Option.bind_some, if_true]
        refine ⟨1, 0, c4, g6, ?_, hm1.trans hm2, fc4, fg4.tr (y2.mono (fun a b z => tx_ln z)), Or.inr ⟨rfl, j4, S4, by omega, e84, Or.inr ⟨rfl, f, by omega, by omega⟩⟩⟩
        unfold setC
        rw [hse]
        simp only [Option.bind_some]
        rw [if_neg (show ¬ (1 : Int) = 0 by decide), hro]
        simp only [Option.bind_some]
        rw [if_neg (show ¬ (1 : Int) = 0 by decide)]
      · exact absurd z z4
      · exact absurd z z4
    · have hm2 : setM2 g4 to t = fX12_takesSet_b164 g4 192 to := by
        unfold setM2
        by_cases z12 : g4 192 12 = 1
        · have := k12.mp z12
          rw [if_pos z12, no_w.2.1, isWordM U4 (by decide) (by decide)]
          simp only [Option.bind_some]
          rw [if_pos (show K j4 = 128 + 15 by omega), if_neg (show ¬ (1 : Int) = 0 by decide)]
        · rw [if_neg z12]
      exact conc c4 g4 1 0 0 j4 hse (hm1.trans hm2) S4 U4 fc4 fg4 e84 (by omega) ⟨Ac.1, Ac.2.1, Ac.2.2.1, Ac.2.2.2.1, Ac.2.2.2.2.1⟩ G (Or.inl ⟨rfl, Ac.2.2.2.2.2⟩) ⟨fun b hb => by rw [wc4, if_neg (by omega), if_neg (by omega)], fun b hb => by rw [wg4, if_neg (by omega), if_neg (by omega), if_neg (by omega)]⟩
end SIM
