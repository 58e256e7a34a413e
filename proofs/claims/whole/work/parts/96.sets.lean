/-! READING LINES: SET -/
section SIM
variable {B : Int → Int} {L M n : Int} {K A V E : Int → Int}
/-- behind the settings -/
theorem setFin {c0 g0 c g : hH} {i to t x v m x2 v2 j0 j : Int} (hC : Chain B L M n K A V E) (i0 : 0 ≤ i) (i1 : i < 40) (t0 : 0 ≤ to) (t1 : to + 20 ≤ 800) (ht : 0 ≤ t ∧ t < g 194 0) (hc : SC n K A V j c) (hg : SM B L M n K A V E j g) (hD : PI c g) (e8 : c 1 8 = 0) (fc : Fr lnC c0 c) (fg : Fr lnM g0 g) (hj : j0 ≤ j)
    (a0 : c 38 (19 * i) = 145) (a1 : c 38 (19 * i + 1) = t) (a2 : c 38 (19 * i + 2) = 0) (a3 : c 38 (19 * i + 3) = x) (a4 : c 38 (19 * i + 4) = v) (b0 : g 197 to = 2) (b1 : g 197 (to + 1) = t) (b2 : g 197 (to + 2) = m) (b3 : g 197 (to + 3) = x) (b4 : g 197 (to + 4) = v) (b7 : g 197 (to + 7) = 0)
    (hx : 0 ≤ x ∧ x < g 194 (4 + t)) (hv : -1 ≤ v ∧ v ≤ 99) (alt : (m = 1 ∧ c 38 (19 * i + 5) = -1) ∨ (m = 2 ∧ c 38 (19 * i + 5) = x2 ∧ c 38 (19 * i + 6) = v2 ∧ g 197 (to + 5) = x2 ∧ g 197 (to + 6) = v2 ∧ (0 ≤ x2 ∧ x2 < g 194 (4 + t)) ∧ x2 ≠ x ∧ -1 ≤ v2 ∧ v2 ≤ 99)) (lo : LO2 i to c0 g0 c g) :
    ∃ b b' c' g', fX2_readConds c 37 i t = some (b, c') ∧ fX12_takesConds g 192 to = some (b', g') ∧ (b = 0 ∨ b = 1) ∧ LX B L M n K A V E (g 194) i to j0 c0 g0 b b' c' g' := by
  obtain ⟨b, b', c', g', y1, y2, ⟨f1, f2, f3, f4, f5⟩, y4⟩ := conds2 hC i0 i1 t0 t1 ht hc hg hD ⟨a2, b7, b1, fun k k0 k1 => by omega⟩ e8
  refine ⟨b, b', c', g', y1, y2, by rcases y4 with ⟨z, -⟩ | ⟨z, -⟩; exact Or.inl z; exact Or.inr z, fc.tr f1, fg.tr f2, ?_⟩
  rcases y4 with y4 | ⟨rfl, rfl, j', w, z1, z2, z3, z4, z5, ⟨q1, q2, q3, q4⟩⟩
  · exact Or.inl y4
  · have T0 : g' 197 (to + 0) = 2 := by rw [f4 _ (by omega) (by omega), show to + 0 = to by omega]; exact b0
    have T2 : g' 197 (to + 2) = m := by rw [f4 _ (by omega) (by omega)]; exact b2
    have T3 : g' 197 (to + 3) = x := by rw [f4 _ (by omega) (by omega)]; exact b3
    have T4 : g' 197 (to + 4) = v := by rw [f4 _ (by omega) (by omega)]; exact b4
    have T5 : g' 197 (to + 5) = g 197 (to + 5) := f4 _ (by omega) (by omega)
    have T6 : g' 197 (to + 6) = g 197 (to + 6) := f4 _ (by omega) (by omega)
    have C3 : c' 38 (19 * i + 3) = x := by rw [f3 _ (by omega) (by omega)]; exact a3
    have C4 : c' 38 (19 * i + 4) = v := by rw [f3 _ (by omega) (by omega)]; exact a4
    have C5 : c' 38 (19 * i + 5) = c 38 (19 * i + 5) := f3 _ (by omega) (by omega)
    have C6 : c' 38 (19 * i + 6) = c 38 (19 * i + 6) := f3 _ (by omega) (by omega)
    refine Or.inr ⟨rfl, j', z3, by omega, z5, Or.inl ⟨rfl, z4, ?_, ?_, lo.tr ⟨fun b hb => f3 b (by omega) (by omega), fun b hb => f4 b (by omega) (by omega)⟩⟩⟩
    · unfold LOk
      dsimp only
      rw [T0, q3, T2, q2, T3, T4, T5, T6]
      refine ⟨Or.inr (Or.inr rfl), ht, z2, fun k k0 k1 => (q4 k k0 k1).1, fun z => by omega, fun z => by omega, fun _ => ⟨by omega, hx, hv, fun hm => ?_⟩⟩
      rcases alt with ⟨z, -⟩ | ⟨-, -, -, r3, r4, r5, r6, r7, r8⟩
      · omega
      · rw [r3, r4]; exact ⟨r5, r6, r7, r8⟩
    · unfold LinC
      dsimp only
      refine ⟨⟨i0, i1⟩, by rw [f3 _ (by omega) (by omega), a0, if_neg (by omega), if_neg (by omega)], by rw [f3 _ (by omega) (by omega), a1, q3], by rw [q1, q2], fun k k0 k1 => (q4 k k0 (by omega)).2, fun z => by omega, fun _ => ⟨by rw [C3, T3], by rw [C4, T4], fun hm => ?_, fun hm => ?_⟩⟩
      · rcases alt with ⟨z, -⟩ | ⟨-, r1, r2, r3, r4, -⟩
        · omega
        · rw [C5, C6, T5, T6, r1, r2, r3, r4]; exact ⟨rfl, rfl⟩
      · rcases alt with ⟨-, z⟩ | ⟨z, -⟩
        · rw [C5]; exact z
        · omega
noncomputable def setC (c : hH) (i t : Int) : Option (Int × hH) := (fX2_readSets c 37 i t).bind fun q116 => if q116.1 = 0 then some (0, q116.2) else (fX2_readConds q116.2 37 i t).bind fun q126 => if q126.1 = 0 then some (0, q126.2) else some (1, q126.2)
noncomputable def setM2 (g : hH) (to t : Int) : Option (Int × hH) :=
  if g 192 12 = 1 then
    (fX12_isWord g 192 26982).bind fun r89 =>
    if r89 = 0 then
      (fX12_looksAtCol g 192 t).bind fun q97 =>
      if q97.1 = 0 then
        some (0, q97.2)
      else
        (aget q97.2 (q97.2 192 9) (w32 (to + 3))).bind fun v116 =>
        if q97.2 192 19 = v116 then
          (fX12_bad q97.2 192 3).bind fun q122 =>
          some (q122.1, q122.2)
        else
          (aput q97.2 (q97.2 192 9) (w32 (to + 5)) (q97.2 192 19)).bind fun h137 =>
          (fX12_next h137 192).bind fun h139 =>
          (fX12_takesValue h139 192 (w32 (to + 6))).bind fun q147 =>
          if q147.1 = 0 then
            some (0, q147.2)
          else
            (aput q147.2 (q147.2 192 9) (w32 (to + 2)) 2).bind fun h163 =>
            fX12_takesSet_b164 h163 192 to
    else
      fX12_takesSet_b164 g 192 to
  else
    fX12_takesSet_b164 g 192 to
noncomputable def setM (g : hH) (to : Int) : Option (Int × hH) :=
  (aget g (g 192 9) (w32 (to + 1))).bind fun v28 =>
  (fX12_looksAtCol g 192 v28).bind fun q32 =>
  if q32.1 = 0 then
    some (0, q32.2)
  else
    (aput q32.2 (q32.2 192 9) (w32 (to + 3)) (q32.2 192 19)).bind fun h51 =>
    (fX12_next h51 192).bind fun h53 =>
    (fX12_takesValue h53 192 (w32 (to + 4))).bind fun q60 =>
    if q60.1 = 0 then
      some (0, q60.2)
    else
      (aput q60.2 (q60.2 192 9) (w32 (to + 2)) 1).bind fun h76 => setM2 h76 to v28
theorem takesSet_M {g : hH} {to : Int} : fX12_takesSet g 192 to = (fX12_next g 192).bind fun h1 => (aput h1 (h1 192 9) to 2).bind fun h10 => (fX12_takesOwnTable h10 192 to).bind fun q13 => if q13.1 = 0 then some (0, q13.2) else setM q13.2 to := rfl
end SIM
