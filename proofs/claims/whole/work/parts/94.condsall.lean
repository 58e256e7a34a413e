/-! READING LINES: all conditions -/
section SIM
variable {B : Int → Int} {L M n : Int} {K A V E : Int → Int}
theorem CE.from {S : Int → Int} {t i to j0 j : Int} {c0 g0 c g : hH} {b b' : Int} {c' g' : hH} (h0 : CF i to c0 g0 c g) (hj : j0 ≤ j) (h : CE B L M n K A V E S t i to j c g b b' c' g') : CE B L M n K A V E S t i to j0 c0 g0 b b' c' g' := by
  obtain ⟨h1, h2⟩ := h
  refine ⟨h0.tr h1, ?_⟩
  rcases h2 with h2 | ⟨y1, y2, j', w, y3, y4⟩
  · exact Or.inl h2
  · exact Or.inr ⟨y1, y2, j', w, Int.le_trans hj y3, y4⟩
theorem condsLoop {i to t : Int} {S : Int → Int} (hC : Chain B L M n K A V E) (i0 : 0 ≤ i) (i1 : i < 40) (t0 : 0 ≤ to) (t1 : to + 20 ≤ 800) (ht : 0 ≤ t ∧ t < S 0) (x0 x1 : hH) : ∀ (d : Nat) (w j : Int) (c g : hH), w + d = 4 → 0 ≤ w → g 194 = S → SC n K A V (nx n j) c → SM B L M n K A V E j g → PI c g → CI S t i to w c g → c 1 8 = 0 → ∃ b b' c' g', lpO (fX2_readConds_s17 x0 37 i t) (c, w) = some (b, c') ∧ lpO (fX12_takesConds_s14 x1 192 to) (g, 1) = some (b', g') ∧ CE B L M n K A V E S t i to j c g b b' c' g' := by
  intro d
  induction d with
  | zero =>
    intro w j c g hw w0 hS hc hg hD hI e8
    subst hS
    rcases condsMain hC i0 i1 t0 t1 hc hg hD ht w0 (by omega) hI e8 x0 x1 with ⟨b, b', c', g', h1, h2, h3⟩ | ⟨z, -⟩
    · exact ⟨b, b', c', g', lpO_inr h1, h2, h3⟩
    · omega
  | succ d ih =>
    intro w j c g hw w0 hS hc hg hD hI e8
    subst hS
    rcases condsMain hC i0 i1 t0 t1 hc hg hD ht w0 (by omega) hI e8 x0 x1 with ⟨b, b', c', g', h1, h2, h3⟩ | ⟨z, c', g', j', h1, h2, h3, h4, h5, h6, h7, h8, h9⟩
    · exact ⟨b, b', c', g', lpO_inr h1, h2, h3⟩
    · obtain ⟨b, b', c2, g2, y1, y2, y3⟩ := ih (w + 1) j' c' g' (by omega) (by omega) (lnM_row h9.2.1 (by decide) (by decide)) h4 h5 h6 h7 h8
      exact ⟨b, b', c2, g2, by rw [lpO_inl h1]; exact y1, by rw [lpO_inl h2]; exact y2, y3.from h9 h3⟩
theorem conds2 {c g : hH} {i to t j : Int} (hC : Chain B L M n K A V E) (i0 : 0 ≤ i) (i1 : i < 40) (t0 : 0 ≤ to) (t1 : to + 20 ≤ 800) (ht : 0 ≤ t ∧ t < g 194 0) (hc : SC n K A V j c) (hg : SM B L M n K A V E j g) (hD : PI c g) (hI : CI (g 194) t i to 0 c g) (e8 : c 1 8 = 0) : ∃ b b' c' g', fX2_readConds c 37 i t = some (b, c') ∧ fX12_takesConds g 192 to = some (b', g') ∧ CE B L M n K A V E (g 194) t i to j c g b b' c' g' := by
  unfold fX2_readConds fX12_takesConds
  rw [ly_37_0 hc.1, no_w.2.1, isWordM hg (by decide) (by decide)]
  simp only [Option.bind_some]
  by_cases z : K j = 143
  · obtain ⟨c1, k1, k2, k3, k4, -⟩ := stepC hC hc
    have ho : fX9_option c 1 143 = some (1, c1) := by
      unfold fX9_option
      rw [hc.k, if_pos z, k1]
      rfl
    have hF : CF i to c g c1 g := CF.tk k3 Fr.rf
    obtain ⟨b, b', c', g', y1, y2, y3⟩ := condsLoop hC i0 i1 t0 t1 ht c1 g 4 0 j c1 g (by decide) (Int.le_refl _) rfl k2 hg (hD.ln hF.1 hF.2.1) (hI.same (tkF_row k3 (by decide)) rfl) (by rw [k4]; exact e8)
    rw [ho, if_pos (show K j = 128 + 15 by omega), if_neg (show ¬ (1 : Int) = 0 by decide)]
    simp only [Option.bind_some]
    rw [if_neg (show ¬ (1 : Int) = 0 by decide), y1, y2]
    exact ⟨b, b', c', g', rfl, rfl, y3.from hF (Int.le_refl _)⟩
  · have ho : fX9_option c 1 143 = some (0, c) := by
      unfold fX9_option
      rw [hc.k, if_neg z]
    rw [ho, if_neg (show ¬ K j = 128 + 15 by omega), if_pos (show (0 : Int) = 0 from rfl)]
    simp only [Option.bind_some, if_true]
    exact ⟨1, 1, c, g, rfl, rfl, CF.tk Fr.rf Fr.rf, Or.inr ⟨rfl, rfl, j, 0, Int.le_refl _, by omega, hc, hg, e8, hI⟩⟩
end SIM
