/-! READING LINES: one line -/
section SIM
variable {B : Int → Int} {L M n : Int} {K A V E : Int → Int}
def lnC2 (a b : Int) : Bool := lnC a b || (a == 37 && b == 2)
theorem lnC2_1 : refT.all (fun q => !(lnC2 q.1 q.2.1)) = true := by decide +kernel
theorem lnC2_2 : lenT.all (fun q => !(lnC2 q.1 (-1))) = true := by decide +kernel
theorem ln_2 {a b : Int} (z : lnC a b = true) : lnC2 a b = true := by unfold lnC2; rw [z]; rfl
/-- how a line ends, from its first word -/
def LY (B : Int → Int) (L M n : Int) (K A V E : Int → Int) (S : Int → Int) (i to j : Int) (c g : hH) (b b' : Int) (c' g' : hH) : Prop := Fr lnC2 c c' ∧ Fr lnM g g' ∧ ((b = 0 ∧ b' = 0 ∧ FF c' g') ∨ (b = 1 ∧ c' 37 2 = i + 1 ∧ ∃ j', SC n K A V j' c' ∧ j + 1 ≤ j' ∧ c' 1 8 = 0 ∧ ((b' = 1 ∧ SM B L M n K A V E j' g' ∧ LOk S (fun q => g' 197 (to + q)) ∧ LinC S c' i (fun q => g' 197 (to + q)) ∧ LO2 i to c g c' g') ∨ (b' = 0 ∧ FRm 1 (A j') g' ∧ K j' ≠ 59 ∧ K j' ≠ 0))))
theorem starts_ok {h : hH} {a : Int} : fX2_startsStatement h a = some (if a = 141 ∨ a = 142 ∨ a = 145 then 1 else 0) := by
  unfold fX2_startsStatement fX2_startsStatement_b21
  by_cases a1 : a = 141
  · rw [if_pos a1, if_pos (Or.inl a1)]
  · rw [if_neg a1]
    by_cases a2 : a = 142
    · rw [if_pos a2, if_pos (Or.inr (Or.inl a2))]
    · rw [if_neg a2]
      by_cases a3 : a = 145
      · rw [if_pos a3, if_pos (Or.inr (Or.inr a3))]
      · rw [if_neg a3, if_neg (by omega)]
theorem stmt2 {c g : hH} {i to j : Int} (hC : Chain B L M n K A V E) (i0 : 0 ≤ i) (i1 : i < 40) (t0 : 0 ≤ to) (t1 : to + 20 ≤ 800) (hc : SC n K A V j c) (hg : SM B L M n K A V E j g) (hD : PI c g) (e8 : c 1 8 = 0) (hi : c 37 2 = i) (hk : K j = 141 ∨ K j = 142 ∨ K j = 145) : ∃ c1 b b' c' g', fX9_step c 1 = some c1 ∧ Lay c1 ∧ fX2_readLine c1 37 (K j) = some (b, c') ∧ fX12_takesStatement g 192 to = some (b', g') ∧ LY B L M n K A V E (g 194) i to j c g b b' c' g' := by
  obtain ⟨c1, k1, k2, k3, k4, -⟩ := stepC hC hc
  refine ⟨c1, ?_⟩
  have nj := nx_s hC hc.2.2.2.2 (by omega) (by omega)
  obtain ⟨g1, m1, m2, m3⟩ := nextM hC hg
  -- the kind
  obtain ⟨q, hq, hq2⟩ : ∃ q : Int, (q = 0 ∨ q = 1 ∨ q = 2) ∧ K j = (if q = 0 then 141 else if q = 1 then 142 else 145) := by
    rcases hk with y | y | y
    · exact ⟨0, by omega, y⟩
    · exact ⟨1, by omega, y⟩
    · exact ⟨2, by omega, y⟩
  have U1 := m2.up197 (b := to) (v := q) t0
  have fg1 : Fr lnM g (hup g1 197 to q) := (m3.mono (fun a b z => tx_ln (nx_tx z))).tr (Fr.up (by unfold lnM; simp; omega))
  have fc1 : Fr lnC c c1 := k3.mono (fun a b z => tk_ln z)
  obtain ⟨t, bt, c2, g2, o1, o2, o3, o4, o5⟩ := ownTable2 (to := to) hC k2 U1 (hD.ln fc1 fg1) t0 t1
  have L2 : Lay c2 := o3.lay k2.1 tkF_lay1 tkF_lay2
  have c137 : c1 37 2 = i := by rw [tkF_row k3 (by decide)]; exact hi
  have fc2 : Fr lnC c c2 := fc1.tr (o3.mono (fun a b z => tk_ln z))
  have fg2 : Fr lnM g g2 := fg1.tr o4
  have hcl : fX2_readLine c1 37 (K j) = if t = -1 then some (0, c2) else fX2_readLine_b43 c2 37 (K j) i t := by
    unfold fX2_readLine
    rw [starts_ok, if_pos hk]
    simp only [Option.bind_some]
    rw [if_neg (show ¬ (1 : Int) = 0 by decide), ly_37_0 k2.1, ly_37_1 k2.1, o1]
    simp only [Option.bind_some]
    unfold fX2_readLine_b29
    rw [if_neg (show ¬ (1 : Int) = 0 by decide), c137]
  rw [hcl]
  -- the model's beginning
  have hmod : ∀ r : Option (Int × hH), (q = 0 → (if bt = 0 then some (0, g2) else lpO (fX12_takesInsert_s23 g2 192 to) (g2, 0)) = r) → (q = 1 → (if bt = 0 then some (0, g2) else (fX12_takesConds g2 192 to).bind fun q21 => if q21.1 = 0 then some (0, q21.2) else some (1, q21.2)) = r) → (q = 2 → (if bt = 0 then some (0, g2) else setM g2 to) = r) → fX12_takesStatement g 192 to = r.bind (fun p => some (p.1, p.2)) := fun r r0 r1 r2 => by
    unfold fX12_takesStatement
    rw [no_w.2.2.2.1, no_w.2.2.2.2.1, no_w.2.2.2.2.2, isWordM hg (by decide) (by decide), isWordM hg (by decide) (by decide), isWordM hg (by decide) (by decide)]
    simp only [Option.bind_some]
    rcases hq with rfl | rfl | rfl
    · rw [if_pos rfl] at hq2
      rw [if_pos (show K j = 128 + 13 by omega), if_neg (show ¬ (1 : Int) = 0 by decide), ← r0 rfl]
      unfold fX12_takesInsert
      rw [m1]
      simp only [Option.bind_some]
      rw [put197 m2.1.1 t0 (by omega)]
      simp only [Option.bind_some]
      rw [o2]
      rfl
    · rw [if_neg (by decide), if_pos rfl] at hq2
      rw [if_neg (show ¬ K j = 128 + 13 by omega), if_pos rfl, if_pos (show K j = 128 + 14 by omega), if_neg (show ¬ (1 : Int) = 0 by decide), ← r1 rfl]
      unfold fX12_takesDelete
      rw [m1]
      simp only [Option.bind_some]
      rw [put197 m2.1.1 t0 (by omega)]
      simp only [Option.bind_some]
      rw [o2]
      rfl
    · rw [if_neg (by decide), if_neg (by decide)] at hq2
      rw [if_neg (show ¬ K j = 128 + 13 by omega), if_pos rfl, if_neg (show ¬ K j = 128 + 14 by omega), if_pos rfl, if_pos (show K j = 128 + 17 by omega), if_neg (show ¬ (1 : Int) = 0 by decide), ← r2 rfl, takesSet_M, m1]
      simp only [Option.bind_some]
      rw [put197 m2.1.1 t0 (by omega)]
      simp only [Option.bind_some]
      rw [o2]
      rfl
  rcases o5 with ⟨rfl, rfl, ff⟩ | ⟨hx, rfl, S2, U2, e82, w2⟩
  · refine ⟨0, 0, c2, g2, k1, k2.1, by rw [if_pos rfl], ?_, fc2.mono (fun a b z => ln_2 z), fg2, Or.inl ⟨rfl, rfl, ff⟩⟩
    rw [hmod (some (0, g2)) (fun _ => by rw [if_pos rfl]) (fun _ => by rw [if_pos rfl]) (fun _ => by rw [if_pos rfl])]
    rfl
  rw [if_neg (show ¬ t = -1 by omega)]
  obtain ⟨c3, y1, y2, y3, y4, y5, y6, y7⟩ := startLine_ok (i := i) (w := K j) (t := t) L2 i0 i1
  have fc3 : Fr lnC c2 c3 := y2.mono (fun a b z => by unfold lnC; simp at z ⊢; omega)
  have S3 : SC n K A V (nx n (nx n j)) c3 := S2.per (fc3.lay L2 lnC_1 lnC_2) (y2.row 3 (fun b => by simp)) (fun b _ _ => y2 1 b (by simp))
  have S4 := S3.up37 (v := i + 1)
  have r37 : c3 37 2 = i := by rw [(fc2.tr fc3) 37 2 (by decide)]; exact hi
  have hb43 : fX2_readLine_b43 c2 37 (K j) i t = if K j = 141 then (fX2_readValues (hup c3 37 2 (i + 1)) 37 i t).bind fun q100 => some (q100.1, q100.2) else if K j = 142 then (fX2_readConds (hup c3 37 2 (i + 1)) 37 i t).bind fun q108 => some (q108.1, q108.2) else setC (hup c3 37 2 (i + 1)) i t := by
    unfold fX2_readLine_b43
    rw [y1]
    simp only [Option.bind_some, pput]
    rw [r37, w1 (i := i) (by omega) (by omega)]
    by_cases a1 : K j = 141
    · rw [if_pos a1, if_pos a1]
    · rw [if_neg a1, if_neg a1]
      by_cases a2 : K j = 142
      · rw [if_pos a2, if_pos a2]
      · rw [if_neg a2, if_neg a2, if_neg (show ¬ K j = 143 by omega), if_neg (show ¬ K j = 144 by omega), if_pos (show K j = 145 by omega)]
        rfl
  rw [hb43]
  have h38 : hup c3 37 2 (i + 1) 38 = c3 38 := hup_off (by decide)
  have hST : ST q t i to (hup c3 37 2 (i + 1)) g2 := by
    unfold ST
    rw [h38]
    have up : ∀ b, hup g1 197 to q 197 b = if b = to then q else g1 197 b := fun b => by rw [hup_row]; rfl
    exact ⟨⟨by rw [y3]; exact hq2, y4, y5, y6⟩, by rw [w2, if_neg (by omega), if_neg (by omega), if_neg (by omega), up, if_pos rfl], by rw [w2, if_neg (by omega), if_neg (by omega), if_pos rfl], by rw [w2, if_neg (by omega), if_pos rfl], by rw [w2, if_pos rfl]⟩
  have fc4 : Fr lnC2 c (hup c3 37 2 (i + 1)) := ((fc2.tr fc3).mono (fun a b z => ln_2 z)).tr (Fr.up (by decide))
  have r194 : g2 194 = g 194 := lnM_row fg2 (by decide) (by decide)
  have hD4 : PI (hup c3 37 2 (i + 1)) g2 := by
    have h1 := hD.ln (fc2.tr fc3) fg2
    unfold PI at h1 ⊢
    exact DR.per h1 (Or.inl rfl) (fun a a0 a1 => hup_off (by omega)) rfl
  have e84 : hup c3 37 2 (i + 1) 1 8 = 0 := by rw [hup_off (by decide), y2 1 8 (by simp), e82, k4]; exact e8
  have hx' : 0 ≤ t ∧ t < g2 194 0 := by
    have : hup g1 197 to q 194 = g 194 := lnM_row fg1 (by decide) (by decide)
    rw [this] at hx
    rw [r194]; exact hx
  have jle := @nx_le n (nx n j)
  have lo0 : LO2 i to c g (hup c3 37 2 (i + 1)) g2 := ⟨fun b hb => by
    rw [h38, y7 b (by omega), tkF_row o3 (by decide), tkF_row k3 (by decide)], fun b hb => by
    rw [w2, if_neg (by omega), if_neg (by omega), if_neg (by omega), hup_row]
    unfold up1
    rw [if_neg (by omega), txF_row (m3.mono (fun a b z => nx_tx z)) (by decide)]⟩
  -- the end
  have fin : ∀ b b' c' g', LX B L M n K A V E (g2 194) i to (nx n (nx n j)) (hup c3 37 2 (i + 1)) g2 b b' c' g' → LY B L M n K A V E (g 194) i to j c g b b' c' g' := fun b b' c' g' h => by
    obtain ⟨h1, h2, h3⟩ := h
    rw [r194] at h3
    refine ⟨fc4.tr (h1.mono (fun a b z => ln_2 z)), fg2.tr h2, ?_⟩
    rcases h3 with h3 | ⟨z1, j', z2, z3, z4, z5⟩
    · exact Or.inl h3
    · refine Or.inr ⟨z1, by rw [h1 37 2 (by decide), hup_at], j', z2, by omega, z4, ?_⟩
      rcases z5 with ⟨a1, a2, a3, a4, a5⟩ | z5
      · exact Or.inl ⟨a1, a2, a3, a4, lo0.tr a5⟩
      · exact Or.inr z5
  rcases hq with rfl | rfl | rfl
  · rw [if_pos rfl] at hq2
    obtain ⟨b, b', c', g', v1, v2, v3⟩ := insert2 (x1 := g2) hC i0 i1 t0 t1 hx' S4 U2 hD4 hST e84
    rw [if_pos hq2, v1]
    refine ⟨b, b', c', g', k1, k2.1, rfl, ?_, fin _ _ _ _ v3⟩
    rw [hmod (some (b', g')) (fun _ => by rw [if_neg (by decide)]; exact v2) (fun z => by omega) (fun z => by omega)]
    rfl
  · rw [if_neg (by decide), if_pos rfl] at hq2
    obtain ⟨b, b', c', g', v1, v2, v3⟩ := delete2 hC i0 i1 t0 t1 hx' S4 U2 hD4 hST e84
    rw [if_neg (show ¬ K j = 141 by omega), if_pos hq2, v1]
    refine ⟨b, b', c', g', k1, k2.1, rfl, ?_, fin _ _ _ _ v3⟩
    rw [hmod (some (b', g')) (fun z => by omega) (fun _ => by
      rw [if_neg (by decide), v2]
      simp only [Option.bind_some]
      obtain ⟨-, -, v4⟩ := v3
      rcases v4 with ⟨-, rfl, -⟩ | ⟨-, _, -, -, -, ⟨rfl, -⟩ | ⟨rfl, -⟩⟩
      · rw [if_pos rfl]
      · rw [if_neg (by decide)]
      · rw [if_pos rfl]) (fun z => by omega)]
    rfl
  · rw [if_neg (by decide), if_neg (by decide)] at hq2
    obtain ⟨b, b', c', g', v1, v2, v3⟩ := set2 hC i0 i1 t0 t1 hx' S4 U2 hD4 hST e84
    rw [if_neg (show ¬ K j = 141 by omega), if_neg (show ¬ K j = 142 by omega), v1]
    refine ⟨b, b', c', g', k1, k2.1, rfl, ?_, fin _ _ _ _ v3⟩
    rw [hmod (some (b', g')) (fun z => by omega) (fun z => by omega) (fun _ => by rw [if_neg (by decide)]; exact v2)]
    rfl
end SIM
