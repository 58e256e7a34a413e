/-! READING LINES: a line of each kind -/
section SIM
variable {B : Int → Int} {L M n : Int} {K A V E : Int → Int}
/-- a line begins, both ways: kind q (0, 1, 2), table t -/
def ST (q t i to : Int) (c g : hH) : Prop := (c 38 (19 * i) = (if q = 0 then 141 else if q = 1 then 142 else 145) ∧ c 38 (19 * i + 1) = t ∧ c 38 (19 * i + 2) = 0 ∧ ∀ k, 3 ≤ k → k < 7 → c 38 (19 * i + k) = -1) ∧ g 197 to = q ∧ g 197 (to + 1) = t ∧ g 197 (to + 2) = 0 ∧ g 197 (to + 7) = 0
/-- nothing else of the lines is another -/
def LO2 (i to : Int) (c g c' g' : hH) : Prop := (∀ b, (b < 19 * i ∨ 19 * i + 19 ≤ b) → c' 38 b = c 38 b) ∧ ∀ b, (b < to ∨ to + 20 ≤ b) → g' 197 b = g 197 b
theorem LO2.tr {i to : Int} {a1 b1 a2 b2 a3 b3 : hH} (h1 : LO2 i to a1 b1 a2 b2) (h2 : LO2 i to a2 b2 a3 b3) : LO2 i to a1 b1 a3 b3 := ⟨fun b x => (h2.1 b x).trans (h1.1 b x), fun b x => (h2.2 b x).trans (h1.2 b x)⟩
/-- how a line of changes ends -/
def LX (B : Int → Int) (L M n : Int) (K A V E : Int → Int) (S : Int → Int) (i to j : Int) (c g : hH) (b b' : Int) (c' g' : hH) : Prop := Fr lnC c c' ∧ Fr lnM g g' ∧ ((b = 0 ∧ b' = 0 ∧ FF c' g') ∨ (b = 1 ∧ ∃ j', SC n K A V j' c' ∧ j ≤ j' ∧ c' 1 8 = 0 ∧ ((b' = 1 ∧ SM B L M n K A V E j' g' ∧ LOk S (fun q => g' 197 (to + q)) ∧ LinC S c' i (fun q => g' 197 (to + q)) ∧ LO2 i to c g c' g') ∨ (b' = 0 ∧ FRm 1 (A j') g' ∧ K j' ≠ 59 ∧ K j' ≠ 0))))
/-- l values stand -/
def VI (i to l : Int) (c g : hH) : Prop := (∀ k, 0 ≤ k → k < l → c 38 (19 * i + (3 + k)) = g 197 (to + (3 + k)) ∧ -1 ≤ g 197 (to + (3 + k)) ∧ g 197 (to + (3 + k)) ≤ 99) ∧ ∀ k, l ≤ k → k < 4 → c 38 (19 * i + (3 + k)) = -1
def VF (i to : Int) (c g c' g' : hH) : Prop := Fr lnC c c' ∧ Fr lnM g g' ∧ (∀ b, (b < 19 * i + 3 ∨ 19 * i + 7 ≤ b) → c' 38 b = c 38 b) ∧ (∀ b, (b < to + 3 ∨ to + 7 ≤ b) → g' 197 b = g 197 b) ∧ c' 37 = c 37
theorem VF.tr {i to : Int} {a1 b1 a2 b2 a3 b3 : hH} (h1 : VF i to a1 b1 a2 b2) (h2 : VF i to a2 b2 a3 b3) : VF i to a1 b1 a3 b3 := ⟨h1.1.tr h2.1, h1.2.1.tr h2.2.1, fun b x => (h2.2.2.1 b x).trans (h1.2.2.1 b x), fun b x => (h2.2.2.2.1 b x).trans (h1.2.2.2.1 b x), h2.2.2.2.2.trans h1.2.2.2.2⟩
theorem valuesLoop {i to t W : Int} {S : Int → Int} (hC : Chain B L M n K A V E) (i0 : 0 ≤ i) (i1 : i < 40) (t0 : 0 ≤ to) (t1 : to + 20 ≤ 800) (ht : 0 ≤ t ∧ t < S 0) (hs : SOk S) (hW : S (4 + t) = W) (x0 x1 : hH) : ∀ (d : Nat) (l j : Int) (c g : hH), l + d = W → 0 ≤ l → g 194 = S → g 197 (to + 1) = t → SC n K A V j c → SM B L M n K A V E j g → PI c g → VI i to l c g → c 1 8 = 0 → ∃ b b' c' g', lpO (fX2_readValues_s2 x0 37 i t) (c, l) = some (b, c') ∧ lpO (fX12_takesInsert_s23 x1 192 to) (g, l) = some (b', g') ∧ Fr lnC c c' ∧ Fr lnM g g' ∧ ((b = 0 ∧ b' = 0 ∧ FF c' g') ∨ (b = 1 ∧ b' = 1 ∧ VF i to c g c' g' ∧ ∃ j', j ≤ j' ∧ SC n K A V j' c' ∧ SM B L M n K A V E j' g' ∧ VI i to W c' g' ∧ c' 1 8 = 0)) := by
  have h4 := hs.1
  have hw := hs.2.2.2.2.1 t ht.1 ht.2
  rw [hW] at hw
  intro d
  induction d with
  | zero =>
    intro l j c g hl l0 hS h1 hc hg hD hV e8
    have : l = W := by omega
    subst this
    refine ⟨1, 1, c, g, lpO_inr ?_, lpO_inr ?_, Fr.rf, Fr.rf, Or.inr ⟨rfl, rfl, ⟨Fr.rf, Fr.rf, fun b _ => rfl, fun b _ => rfl, rfl⟩, j, Int.le_refl _, hc, hg, hV, e8⟩⟩
    · unfold fX2_readValues_s2
      dsimp only
      rw [ly_37_1 hc.1, width_ok hD.1 hD.2.1 hD.2.2.1, hS, if_pos ht, hW]
      simp only [Option.bind_some]
      rw [if_neg (Int.lt_irrefl _)]
    · unfold fX12_takesInsert_s23
      dsimp only
      rw [w32_id (x := to + 1) (by omega) (by omega), row197 hg.1.1 (by omega) (by omega), h1]
      simp only [Option.bind_some]
      rw [w32_id (x := 4 + t) (by omega) (by omega), row194 hg.1.1 (by omega) (by omega), hS, hW]
      simp only [Option.bind_some]
      rw [if_neg (Int.lt_irrefl _)]
  | succ d ih =>
    intro l j c g hl l0 hS h1 hc hg hD hV e8
    obtain ⟨x, b, c1, g1, p1, p2, p3, p4, p5⟩ := value2 (a := to + (3 + l)) hC hc hg (by omega) (by omega)
    have L1 : Lay c1 := p3.lay hc.1 tkF_lay1 tkF_lay2
    have hcl : fX2_readValues_s2 x0 37 i t (c, l) = if hup c1 38 (19 * i + (3 + l)) x 1 8 = 0 then some (.inl (hup c1 38 (19 * i + (3 + l)) x, l + 1)) else some (.inr (0, hup c1 38 (19 * i + (3 + l)) x)) := by
      have L2 : Lay (hup c1 38 (19 * i + (3 + l)) x) := (Fr.up (C := lnC) (by unfold lnC; simp; omega)).lay L1 lnC_1 lnC_2
      unfold fX2_readValues_s2
      dsimp only
      rw [ly_37_1 hc.1, width_ok hD.1 hD.2.1 hD.2.2.1, hS, if_pos ht, hW]
      simp only [Option.bind_some]
      rw [if_pos (show l < W by omega), ly_37_0 hc.1, p1]
      simp only [Option.bind_some]
      rw [w32_id (x := 3 + l) (by omega) (by omega), setPart_ok L1 i0 i1 (by omega) (by omega)]
      simp only [Option.bind_some]
      rw [ly_37_0 L2, w1 (i := l) (by omega) (by omega)]
    have hm : fX12_takesInsert_s23 x1 192 to (g, l) = if b = 0 then some (.inr (0, g1)) else some (.inl (g1, l + 1)) := by
      unfold fX12_takesInsert_s23
      dsimp only
      rw [w32_id (x := to + 1) (by omega) (by omega), row197 hg.1.1 (by omega) (by omega), h1]
      simp only [Option.bind_some]
      rw [w32_id (x := 4 + t) (by omega) (by omega), row194 hg.1.1 (by omega) (by omega), hS, hW]
      simp only [Option.bind_some]
      rw [if_pos (show l < W by omega), w32_id (x := to + 3) (by omega) (by omega), w32_id (x := to + 3 + l) (by omega) (by omega), show to + 3 + l = to + (3 + l) by omega, p2]
      simp only [Option.bind_some]
      rw [w1 (i := l) (by omega) (by omega)]
    have f38 : Fr lnC c (hup c1 38 (19 * i + (3 + l)) x) := (p3.mono (fun a b z => tk_ln z)).tr (Fr.up (by unfold lnC; simp; omega))
    have o18 : hup c1 38 (19 * i + (3 + l)) x 1 8 = c1 1 8 := by rw [hup_off (by decide)]
    rw [o18] at hcl
    rcases p5 with ⟨rfl, rfl, k, q, f1, f2, f3⟩ | ⟨hx, rfl, S1, U1, e81, w1'⟩
    · rw [if_neg (show ¬ c1 1 8 = 0 by rw [f1.1]; omega)] at hcl
      rw [if_pos rfl] at hm
      exact ⟨0, 0, _, g1, lpO_inr hcl, lpO_inr hm, f38, p4, Or.inl ⟨rfl, rfl, k, q, ⟨by rw [o18]; exact f1.1, by rw [hup_off (by decide)]; exact f1.2⟩, f2, f3⟩⟩
    · rw [if_pos (show c1 1 8 = 0 by rw [e81]; exact e8)] at hcl
      rw [if_neg (show ¬ (1 : Int) = 0 by decide)] at hm
      have S2 := S1.up38 (b := 19 * i + (3 + l)) (v := x) (by omega)
      have wc : ∀ b, hup c1 38 (19 * i + (3 + l)) x 38 b = if b = 19 * i + (3 + l) then x else c 38 b := fun b => by
        rw [hup_row, tkF_row p3 (by decide)]
        rfl
      have hF : VF i to c g (hup c1 38 (19 * i + (3 + l)) x) g1 := ⟨f38, p4, fun b hb => by rw [wc, if_neg (by omega)], fun b hb => by rw [w1', if_neg (by omega)], by rw [hup_off (by decide), tkF_row p3 (by decide)]⟩
      have jle := @nx_le n j
      obtain ⟨b, b', c', g', y1, y2, y3, y4, y5⟩ := ih (l + 1) (nx n j) _ g1 (by omega) (by omega) (by rw [lnM_row p4 (by decide) (by decide)]; exact hS) (by rw [w1', if_neg (by omega)]; exact h1) S2 U1 (hD.ln f38 p4) ⟨fun k k0 k1 => by
        rw [wc, w1']
        by_cases e : k = l
        · rw [if_pos (by omega), if_pos (by omega)]; exact ⟨rfl, hx⟩
        · rw [if_neg (by omega), if_neg (by omega)]; exact hV.1 k k0 (by omega), fun k k0 k1 => by rw [wc, if_neg (by omega)]; exact hV.2 k (by omega) k1⟩ (by rw [o18, e81]; exact e8)
      refine ⟨b, b', c', g', by rw [lpO_inl hcl]; exact y1, by rw [lpO_inl hm]; exact y2, f38.tr y3, p4.tr y4, ?_⟩
      rcases y5 with y5 | ⟨z1, z2, z3, j', z4, z5⟩
      · exact Or.inl y5
      · exact Or.inr ⟨z1, z2, hF.tr z3, j', by omega, z5⟩
/-- INSERT, behind the table -/
theorem insert2 {c g x1 : hH} {i to t j : Int} (hC : Chain B L M n K A V E) (i0 : 0 ≤ i) (i1 : i < 40) (t0 : 0 ≤ to) (t1 : to + 20 ≤ 800) (ht : 0 ≤ t ∧ t < g 194 0) (hc : SC n K A V j c) (hg : SM B L M n K A V E j g) (hD : PI c g) (hS : ST 0 t i to c g) (e8 : c 1 8 = 0) : ∃ b b' c' g', fX2_readValues c 37 i t = some (b, c') ∧ lpO (fX12_takesInsert_s23 x1 192 to) (g, 0) = some (b', g') ∧ LX B L M n K A V E (g 194) i to j c g b b' c' g' := by
  have hs := hD.2.2.1
  have hw := hs.2.2.2.2.1 t ht.1 ht.2
  obtain ⟨⟨s1, s2, s3, s4⟩, s5, s6, s7, s8⟩ := hS
  obtain ⟨b, b', c', g', y1, y2, y3, y4, y5⟩ := valuesLoop hC i0 i1 t0 t1 ht hs rfl c x1 (g 194 (4 + t)).toNat 0 j c g (by omega) (Int.le_refl _) rfl s6 hc hg hD ⟨fun k k0 k1 => by omega, fun k k0 k1 => s4 (3 + k) (by omega) (by omega)⟩ e8
  refine ⟨b, b', c', g', y1, y2, y3, y4, ?_⟩
  rcases y5 with y5 | ⟨rfl, rfl, ⟨-, -, z1, z2, -⟩, j', z3, z4, z5, ⟨v1, v2⟩, z7⟩
  · exact Or.inl y5
  · have g0 : g' 197 (to + 0) = 0 := by rw [z2 _ (by omega), show to + 0 = to by omega]; exact s5
    have g1 : g' 197 (to + 1) = t := by rw [z2 _ (by omega)]; exact s6
    have g2 : g' 197 (to + 2) = 0 := by rw [z2 _ (by omega)]; exact s7
    have g7 : g' 197 (to + 7) = 0 := by rw [z2 _ (by omega)]; exact s8
    refine Or.inr ⟨rfl, j', z4, z3, z7, Or.inl ⟨rfl, z5, ?_, ?_, fun b hb => z1 b (by omega), fun b hb => z2 b (by omega)⟩⟩
    · unfold LOk
      dsimp only
      rw [g0, g1, g2, g7]
      exact ⟨Or.inl rfl, ht, by decide, fun k k0 k1 => by omega, fun _ => ⟨rfl, rfl, fun k k0 k1 => (v1 k k0 k1).2⟩, fun z => by omega, fun z => by omega⟩
    · unfold LinC
      dsimp only
      refine ⟨⟨i0, i1⟩, by rw [z1 _ (by omega), s1, if_pos rfl, if_pos g0], by rw [z1 _ (by omega), s2, g1], by rw [z1 _ (by omega), s3, g7], fun k k0 k1 => by omega, fun _ k k0 k1 => ?_, fun z => by omega⟩
      by_cases y : k < g 194 (4 + t)
      · rw [if_pos (show k < g 194 (4 + g' 197 (to + 1)) by rw [g1]; exact y)]; exact (v1 k k0 y).1
      · rw [if_neg (show ¬ k < g 194 (4 + g' 197 (to + 1)) by rw [g1]; exact y)]; exact v2 k (by omega) k1
/-- DELETE, behind the table -/
theorem delete2 {c g : hH} {i to t j : Int} (hC : Chain B L M n K A V E) (i0 : 0 ≤ i) (i1 : i < 40) (t0 : 0 ≤ to) (t1 : to + 20 ≤ 800) (ht : 0 ≤ t ∧ t < g 194 0) (hc : SC n K A V j c) (hg : SM B L M n K A V E j g) (hD : PI c g) (hS : ST 1 t i to c g) (e8 : c 1 8 = 0) : ∃ b b' c' g', fX2_readConds c 37 i t = some (b, c') ∧ fX12_takesConds g 192 to = some (b', g') ∧ LX B L M n K A V E (g 194) i to j c g b b' c' g' := by
  obtain ⟨⟨s1, s2, s3, s4⟩, s5, s6, s7, s8⟩ := hS
  obtain ⟨b, b', c', g', y1, y2, ⟨f1, f2, f3, f4, f5⟩, y4⟩ := conds2 hC i0 i1 t0 t1 ht hc hg hD ⟨s3, s8, s6, fun k k0 k1 => by omega⟩ e8
  refine ⟨b, b', c', g', y1, y2, f1, f2, ?_⟩
  rcases y4 with y4 | ⟨rfl, rfl, j', w, z1, z2, z3, z4, z5, ⟨q1, q2, q3, q4⟩⟩
  · exact Or.inl y4
  · have g0 : g' 197 (to + 0) = 1 := by rw [f4 _ (by omega) (by omega), show to + 0 = to by omega]; exact s5
    have g2 : g' 197 (to + 2) = 0 := by rw [f4 _ (by omega) (by omega)]; exact s7
    refine Or.inr ⟨rfl, j', z3, z1, z5, Or.inl ⟨rfl, z4, ?_, ?_, fun b hb => f3 b (by omega) (by omega), fun b hb => f4 b (by omega) (by omega)⟩⟩
    · unfold LOk
      dsimp only
      rw [g0, q3, g2, q2]
      exact ⟨Or.inr (Or.inl rfl), ht, z2, fun k k0 k1 => (q4 k k0 k1).1, fun z => by omega, fun _ => rfl, fun z => by omega⟩
    · unfold LinC
      dsimp only
      exact ⟨⟨i0, i1⟩, by rw [f3 _ (by omega) (by omega), s1, if_neg (by decide), if_pos rfl, if_neg (by omega), if_pos g0], by rw [f3 _ (by omega) (by omega), s2, q3], by rw [q1, q2], fun k k0 k1 => (q4 k k0 (by omega)).2, fun z => by omega, fun z => by omega⟩
end SIM
