/-! READING LINES: conditions -/
section SIM
variable {B : Int → Int} {L M n : Int} {K A V E : Int → Int}
/-- w conditions stand in the line, both ways -/
def CI (S : Int → Int) (t i to w : Int) (c g : hH) : Prop := c 38 (19 * i + 2) = w ∧ g 197 (to + 7) = w ∧ g 197 (to + 1) = t ∧ ∀ k, 0 ≤ k → k < w → ((0 ≤ g 197 (to + (8 + 3 * k)) ∧ g 197 (to + (8 + 3 * k)) < S (4 + t)) ∧ (g 197 (to + (8 + 3 * k + 1)) = 60 ∨ g 197 (to + (8 + 3 * k + 1)) = 61 ∨ g 197 (to + (8 + 3 * k + 1)) = 62) ∧ -1 ≤ g 197 (to + (8 + 3 * k + 2)) ∧ g 197 (to + (8 + 3 * k + 2)) ≤ 99) ∧
  c 38 (19 * i + (7 + 3 * k)) = g 197 (to + (8 + 3 * k)) ∧ c 38 (19 * i + (7 + 3 * k + 1)) = g 197 (to + (8 + 3 * k + 1)) ∧ c 38 (19 * i + (7 + 3 * k + 2)) = g 197 (to + (8 + 3 * k + 2))
theorem CI.same {S : Int → Int} {t i to w : Int} {c g c' g' : hH} (h : CI S t i to w c g) (e1 : c' 38 = c 38) (e2 : g' 197 = g 197) : CI S t i to w c' g' := by
  unfold CI at h ⊢
  rw [e1, e2]
  exact h
/-- what conditions change -/
def CF (i to : Int) (c g c' g' : hH) : Prop := Fr lnC c c' ∧ Fr lnM g g' ∧ (∀ b, b ≠ 19 * i + 2 → (b < 19 * i + 7 ∨ 19 * i + 19 ≤ b) → c' 38 b = c 38 b) ∧ (∀ b, b ≠ to + 7 → (b < to + 8 ∨ to + 20 ≤ b) → g' 197 b = g 197 b) ∧ c' 37 = c 37
theorem CF.tr {i to : Int} {a1 b1 a2 b2 a3 b3 : hH} (h1 : CF i to a1 b1 a2 b2) (h2 : CF i to a2 b2 a3 b3) : CF i to a1 b1 a3 b3 := ⟨h1.1.tr h2.1, h1.2.1.tr h2.2.1, fun b x y => (h2.2.2.1 b x y).trans (h1.2.2.1 b x y), fun b x y => (h2.2.2.2.1 b x y).trans (h1.2.2.2.1 b x y), h2.2.2.2.2.trans h1.2.2.2.2⟩
theorem CF.tk {i to : Int} {a1 b1 a2 b2 : hH} (h1 : Fr tkF a1 a2) (h2 : Fr txF b1 b2) : CF i to a1 b1 a2 b2 := ⟨h1.mono (fun a b z => tk_ln z), h2.mono (fun a b z => tx_ln z), fun b _ _ => by rw [tkF_row h1 (by decide)], fun b _ _ => by rw [txF_row h2 (by decide)], tkF_row h1 (by decide)⟩
def CE (B : Int → Int) (L M n : Int) (K A V E : Int → Int) (S : Int → Int) (t i to j : Int) (c g : hH) (b b' : Int) (c' g' : hH) : Prop := CF i to c g c' g' ∧ ((b = 0 ∧ b' = 0 ∧ FF c' g') ∨ (b = 1 ∧ b' = 1 ∧ ∃ j' w, j ≤ j' ∧ (0 ≤ w ∧ w ≤ 4) ∧ SC n K A V j' c' ∧ SM B L M n K A V E j' g' ∧ c' 1 8 = 0 ∧ CI S t i to w c' g'))
theorem condsMain {c g : hH} {t i to j w : Int} (hC : Chain B L M n K A V E) (i0 : 0 ≤ i) (i1 : i < 40) (t0 : 0 ≤ to) (t1 : to + 20 ≤ 800) (hc : SC n K A V (nx n j) c) (hg : SM B L M n K A V E j g) (hD : PI c g) (ht : 0 ≤ t ∧ t < g 194 0) (w0 : 0 ≤ w) (w4 : w ≤ 4) (hI : CI (g 194) t i to w c g) (e8 : c 1 8 = 0) (x0 x1 : hH) :
    (∃ b b' c' g', fX2_readConds_s17 x0 37 i t (c, w) = some (.inr (b, c')) ∧ lpO (fX12_takesConds_s14 x1 192 to) (g, 1) = some (b', g') ∧ CE B L M n K A V E (g 194) t i to j c g b b' c' g') ∨
    (w < 4 ∧ ∃ c' g' j', fX2_readConds_s17 x0 37 i t (c, w) = some (.inl (c', w + 1)) ∧ fX12_takesConds_s14 x1 192 to (g, 1) = some (.inl (g', 1)) ∧ j ≤ j' ∧ SC n K A V (nx n j') c' ∧ SM B L M n K A V E j' g' ∧ PI c' g' ∧ CI (g 194) t i to (w + 1) c' g' ∧ c' 1 8 = 0 ∧ CF i to c g c' g') := by
  have hs := hD.2.2.1
  have h0 := hs.1
  have l37 : ∀ x : hH, Lay x → x 37 0 = 1 ∧ x 37 1 = 4 := fun x hx => ⟨ly_37_0 hx, ly_37_1 hx⟩
  obtain ⟨g1, m1, m2, m3⟩ := nextM hC hg
  have fg1 : Fr txF g g1 := m3.mono (fun a b z => nx_tx z)
  have jle := @nx_le n j
  have r194 : g1 194 = g 194 := txF_row fg1 (by decide)
  have r197 : g1 197 = g 197 := txF_row fg1 (by decide)
  have hD1 : PI c g1 := hD.ln Fr.rf (fg1.mono (fun a b z => tx_ln z))
  obtain ⟨x, b, c2, g2, p1, p2, p3⟩ := looksCol2 (u := -1) hc m2 hD1 ht.1 (by rw [r194]; exact ht.2) (Int.le_refl _)
  -- the model's step
  have hm : fX12_takesConds_s14 x1 192 to (g, 1) = (if b = 0 then some (.inr ((0, g2))) else
      (aget g2 (g2 192 9) (w32 (to + 7))).bind fun v47 =>
      if v47 = 4 then
        (fX12_bad g2 192 4).bind fun q56 =>
        some (.inr ((q56.1, q56.2)))
      else
        (aput g2 (g2 192 9) (w32 ((w32 (to + 8)) + (w32 (3 * v47)))) (g2 192 19)).bind fun h80 =>
        (fX12_next h80 192).bind fun h82 =>
        if h82 192 12 = 3 then
          (fX12_isIn h82 (h82 192 15) 60 62).bind fun r101 =>
          if r101 = 0 then
            (fX12_takesConds_b107 h82 192).map (fun z9 => .inr (z9))
          else
            (aput h82 (h82 192 9) (w32 ((w32 ((w32 (to + 8)) + (w32 (3 * v47)))) + 1)) (h82 192 15)).bind fun h125 =>
            (fX12_next h125 192).bind fun h127 =>
            (fX12_takesValue h127 192 (w32 ((w32 ((w32 (to + 8)) + (w32 (3 * v47)))) + 2))).bind fun q135 =>
            if q135.1 = 0 then
              some (.inr ((0, q135.2)))
            else
              (aget q135.2 (q135.2 192 9) (w32 (to + 7))).bind fun v152 =>
              (aput q135.2 (q135.2 192 9) (w32 (to + 7)) (w32 (v152 + 1))).bind fun h155 =>
              (fX12_isWord h155 192 6385252).bind fun r160 =>
              some (.inl (h155, r160))
        else
          (fX12_takesConds_b107 h82 192).map (fun z9 => .inr (z9))) := by
    unfold fX12_takesConds_s14
    dsimp only
    rw [if_neg (show ¬ (1 : Int) = 0 by decide), m1, w32_id (x := to + 1) (by omega) (by omega)]
    simp only [Option.bind_some]
    rw [row197 m2.1.1 (by omega) (by omega), r197, hI.2.2.1]
    simp only [Option.bind_some]
    rw [p2]
    simp only [Option.bind_some]
  have hcl : fX2_readConds_s17 x0 37 i t (c, w) = (if x = -1 then some (.inr ((0, c2))) else
      if w = 4 then
        (fX9_fail c2 (c2 37 0) 4).bind fun q55 =>
        some (.inr ((q55.1, q55.2)))
      else
        (fX9_step c2 (c2 37 0)).bind fun h63 =>
        (fX9_takeComparison h63 (h63 37 0)).bind fun q70 =>
        if q70.1 = -1 then
          fX2_readConds_b92 q70.2 37 i t w x q70.1 (-1)
        else
          (fX9_takeValue q70.2 (q70.2 37 0)).bind fun q89 =>
          fX2_readConds_b92 q89.2 37 i t w x q70.1 q89.1) := by
    unfold fX2_readConds_s17
    dsimp only
    rw [if_neg (show ¬ 4 < w by omega), (l37 _ hc.1).1, (l37 _ hc.1).2, p1]
    simp only [Option.bind_some]
  rcases p3 with ⟨rfl, rfl, ff, fc, fg⟩ | ⟨_, _, z, _⟩ | ⟨hx, hne, rfl, e19, ec, U2, fg, kj⟩
  · refine Or.inl ⟨0, 0, c2, g2, by rw [hcl, if_pos rfl], lpO_inr (by rw [hm, if_pos rfl]), CF.tk fc (fg1.tr fg), Or.inl ⟨rfl, rfl, ff⟩⟩
  · omega
  rw [ec] at hcl
  have fg2 : Fr txF g g2 := fg1.tr fg
  have r197' : g2 197 = g 197 := txF_row fg2 (by decide)
  rw [r194] at hx
  rw [if_neg (show ¬ (1 : Int) = 0 by decide), w32_id (x := to + 7) (by omega) (by omega), row197 U2.1.1 (by omega) (by omega), r197', hI.2.1] at hm
  simp only [Option.bind_some] at hm
  rw [if_neg (show ¬ x = -1 by omega), (l37 _ hc.1).1] at hcl
  by_cases z4 : w = 4
  · obtain ⟨c3, f1, f2, f3⟩ := failC (k := 4) hc
    obtain ⟨g3, f4, f5, f6⟩ := badM (k := 4) U2
    rw [if_pos z4, f4] at hm
    rw [if_pos z4, f1] at hcl
    exact Or.inl ⟨0, 0, c3, g3, hcl, lpO_inr hm, CF.tk f3 (fg2.tr f6), Or.inl ⟨rfl, rfl, 4, _, f2, f5, by decide⟩⟩
  obtain ⟨c3, s1, s2, s3, s4, -⟩ := stepC hC hc
  rw [if_neg z4, s1] at hcl
  simp only [Option.bind_some] at hcl
  rw [if_neg z4, e19, w32_id (x := to + 8) (by omega) (by omega), w32_id (x := 3 * w) (by omega) (by omega), w32_id (x := to + 8 + 3 * w) (by omega) (by omega), put197 U2.1.1 (by omega) (by omega)] at hm
  simp only [Option.bind_some] at hm
  have U3 := U2.up197 (b := to + 8 + 3 * w) (v := x) (by omega)
  obtain ⟨g4, n1, n2, n3⟩ := nextM hC U3
  rw [n1] at hm
  simp only [Option.bind_some] at hm
  have fg4 : CF i to c g c3 g4 := by
    refine ⟨s3.mono (fun a b z => tk_ln z), (fg2.mono (fun a b z => tx_ln z)).tr ((Fr.up (by unfold lnM; simp; omega)).tr (n3.mono (fun a b z => tx_ln (nx_tx z)))), fun b _ _ => by rw [tkF_row s3 (by decide)], fun b h1 h2 => ?_, tkF_row s3 (by decide)⟩
    rw [txF_row (n3.mono (fun a b z => nx_tx z)) (by decide), hup_ne (by omega), r197']
  have w4' : ∀ b, g4 197 b = if b = to + 8 + 3 * w then x else g 197 b := fun b => by
    rw [txF_row (n3.mono (fun a b z => nx_tx z)) (by decide), hup_row, r197']
    rfl
  obtain ⟨op, c5, o1, o2, o3⟩ := cmp2 hC s2
  rw [(l37 _ s2.1).1, o1] at hcl
  simp only [Option.bind_some] at hcl
  obtain ⟨gb, q1, q2, q3⟩ := badM (k := 1) n2
  have hb107 : fX12_takesConds_b107 g4 192 = some (0, gb) := by
    unfold fX12_takesConds_b107
    rw [q1]
    rfl
  rw [isIn_ok, hb107] at hm
  simp only [Option.bind_some] at hm
  rcases o3 with ⟨rfl, hn, fl⟩ | ⟨rfl, hop, S5, e85⟩
  · rw [if_pos rfl] at hcl
    unfold fX2_readConds_b92 at hcl
    have L5 : Lay c5 := o2.lay s2.1 tkF_lay1 tkF_lay2
    rw [(l37 _ L5).1, if_neg (show ¬ c5 1 8 = 0 by rw [fl.1]; decide)] at hcl
    refine Or.inl ⟨0, 0, c5, gb, hcl, lpO_inr ?_, fg4.tr (CF.tk o2 q3), Or.inl ⟨rfl, rfl, 1, _, fl, q2, by decide⟩⟩
    rw [hm]
    by_cases s : sgn (K (nx n (nx n j)))
    · rw [if_pos (n2.tok.2.2.2.1.mpr s), n2.tok.2.2.2.2.1 s, if_neg hn, if_pos rfl]; rfl
    · rw [if_neg (fun z => s (n2.tok.2.2.2.1.mp z))]; rfl
  have hsg : sgn (K (nx n (nx n j))) := by unfold sgn; omega
  rw [if_neg (show ¬ K (nx n (nx n j)) = -1 by omega), (l37 _ S5.1).1] at hcl
  rw [if_pos (n2.tok.2.2.2.1.mpr hsg), n2.tok.2.2.2.2.1 hsg, if_pos hop, if_neg (show ¬ (1 : Int) = 0 by decide), w32_id (x := to + 8 + 3 * w + 1) (by omega) (by omega), w32_id (x := to + 8 + 3 * w + 2) (by omega) (by omega), put197 n2.1.1 (by omega) (by omega)] at hm
  simp only [Option.bind_some] at hm
  generalize hopv : K (nx n (nx n j)) = op at *
  have U5 := n2.up197 (b := to + 8 + 3 * w + 1) (v := op) (by omega)
  obtain ⟨g6, a1, a2, a3⟩ := nextM hC U5
  rw [a1] at hm
  simp only [Option.bind_some] at hm
  have w6 : ∀ b, g6 197 b = if b = to + 8 + 3 * w + 1 then op else if b = to + 8 + 3 * w then x else g 197 b := fun b => by
    rw [txF_row (a3.mono (fun a b z => nx_tx z)) (by decide), hup_row]
    unfold up1
    rw [w4']
  have fg6 : CF i to c g c5 g6 := fg4.tr ⟨o2.mono (fun a b z => tk_ln z), (Fr.up (by unfold lnM; simp; omega)).tr (a3.mono (fun a b z => tx_ln (nx_tx z))), fun b _ _ => by rw [tkF_row o2 (by decide)], fun b h1 h2 => by rw [txF_row (a3.mono (fun a b z => nx_tx z)) (by decide), hup_ne (by omega)], tkF_row o2 (by decide)⟩
  obtain ⟨v, bv, c7, g7, v1, v2, v3, v4, v5⟩ := value2 (a := to + 8 + 3 * w + 2) hC S5 a2 (by omega) (by omega)
  rw [v1] at hcl
  rw [v2] at hm
  simp only [Option.bind_some] at hcl hm
  unfold fX2_readConds_b92 at hcl
  have L7 : Lay c7 := v3.lay S5.1 tkF_lay1 tkF_lay2
  rw [(l37 _ L7).1] at hcl
  rcases v5 with ⟨rfl, rfl, k, q, f1, f2, f3⟩ | ⟨hv, rfl, S7, U7, e87, w7⟩
  · rw [if_neg (show ¬ c7 1 8 = 0 by rw [f1.1]; omega)] at hcl
    rw [if_pos rfl] at hm
    refine Or.inl ⟨0, 0, c7, g7, hcl, lpO_inr hm, fg6.tr ⟨v3.mono (fun a b z => tk_ln z), v4, fun b _ _ => by rw [tkF_row v3 (by decide)], fun b h1 h2 => ?_, tkF_row v3 (by decide)⟩, Or.inl ⟨rfl, rfl, k, q, f1, f2, f3⟩⟩
    -- a failing value leaves the row
    have : g7 197 = g6 197 := by
      by_cases z : K (nx n (nx n (nx n j))) = 149
      · exfalso
        obtain ⟨cc, y1, y2, y3, y4, -⟩ := stepC hC S5
        unfold fX9_takeValue at v1
        rw [S5.k, if_pos z, y1] at v1
        simp only [Option.bind_some] at v1
        injection v1 with v1
        injection v1 with v1 v1'
        have f1a := f1.1
        rw [← v1', y4, e85, s4, e8] at f1a
        omega
      · unfold fX12_takesValue at v2
        rw [no_w.1, isWordM a2 (by decide) (by decide), if_neg (show ¬ K (nx n (nx n (nx n j))) = 128 + 21 by omega)] at v2
        simp only [Option.bind_some, if_true] at v2
        obtain ⟨xx, bb, cc, gg, y1, y2, y3⟩ := takeNumber2 hC S5 a2
        rw [y2] at v2
        simp only [Option.bind_some] at v2
        rcases y3 with ⟨_, rfl, ⟨_, _, fg⟩⟩ | ⟨_, rfl, _, _, U, _, fg, _⟩
        · rw [if_pos rfl] at v2
          injection v2 with v2
          injection v2 with _ v2
          rw [← v2]
          exact txF_row fg (by decide)
        · exfalso
          rw [if_neg (show ¬ (1 : Int) = 0 by decide), put197 U.1.1 (by omega) (by omega)] at v2
          injection v2 with v2
          injection v2 with v2 _
          omega
    rw [this]
  have e87' : c7 1 8 = 0 := by rw [e87, e85, s4]; exact e8
  rw [if_pos e87'] at hcl
  have c7r : c7 38 = c 38 := by rw [tkF_row v3 (by decide), tkF_row o2 (by decide), tkF_row s3 (by decide)]
  -- the class adds it
  have hadd : fX2_addCond c7 37 i x op v = some (hup (hup (hup (hup c7 38 (19 * i + (7 + w * 3)) x) 38 (19 * i + (7 + w * 3 + 1)) op) 38 (19 * i + (7 + w * 3 + 2)) v) 38 (19 * i + 2) (w + 1)) := by
    have P1 := S7.up38 (b := 19 * i + (7 + w * 3)) (v := x) (by omega)
    have P2 := P1.up38 (b := 19 * i + (7 + w * 3 + 1)) (v := op) (by omega)
    have P3 := P2.up38 (b := 19 * i + (7 + w * 3 + 2)) (v := v) (by omega)
    unfold fX2_addCond
    rw [part_ok L7 i0 i1 (by decide) (by decide), c7r, hI.1]
    simp only [Option.bind_some]
    rw [if_neg (show ¬ w < 0 by omega), if_pos (show w < 4 by omega), w32_id (x := w * 3) (by omega) (by omega), w32_id (x := 7 + w * 3) (by omega) (by omega), w32_id (x := 7 + w * 3 + 1) (by omega) (by omega), w32_id (x := 7 + w * 3 + 2) (by omega) (by omega), w1 (i := w) (by omega) (by omega), setPart_ok L7 i0 i1 (by omega) (by omega)]
    simp only [Option.bind_some]
    rw [setPart_ok P1.1 i0 i1 (by omega) (by omega)]
    simp only [Option.bind_some]
    rw [setPart_ok P2.1 i0 i1 (by omega) (by omega)]
    simp only [Option.bind_some]
    rw [setPart_ok P3.1 i0 i1 (by omega) (by omega)]
    rfl
  rw [hadd] at hcl
  simp only [Option.bind_some] at hcl
  have P4 : SC n K A V (nx n (nx n (nx n (nx n j)))) (hup (hup (hup (hup c7 38 (19 * i + (7 + w * 3)) x) 38 (19 * i + (7 + w * 3 + 1)) op) 38 (19 * i + (7 + w * 3 + 2)) v) 38 (19 * i + 2) (w + 1)) := (((S7.up38 (by omega)).up38 (by omega)).up38 (by omega)).up38 (by omega)
  generalize hc8 : hup (hup (hup (hup c7 38 (19 * i + (7 + w * 3)) x) 38 (19 * i + (7 + w * 3 + 1)) op) 38 (19 * i + (7 + w * 3 + 2)) v) 38 (19 * i + 2) (w + 1) = c8 at hcl P4
  have w8 : ∀ b, c8 38 b = if b = 19 * i + 2 then w + 1 else if b = 19 * i + (7 + w * 3 + 2) then v else if b = 19 * i + (7 + w * 3 + 1) then op else if b = 19 * i + (7 + w * 3) then x else c 38 b := fun b => by
    rw [← hc8, hup_row, hup_row, hup_row, hup_row, c7r]
    rfl
  have o8 : ∀ a, a ≠ 38 → c8 a = c7 a := fun a ha => by rw [← hc8, hup_off ha, hup_off ha, hup_off ha, hup_off ha]
  have f78 : Fr lnC c7 c8 := by
    rw [← hc8]
    exact (((Fr.up (by unfold lnC; simp; omega)).tr (Fr.up (by unfold lnC; simp; omega))).tr (Fr.up (by unfold lnC; simp; omega))).tr (Fr.up (by unfold lnC; simp; omega))
  rw [if_neg (show ¬ (1 : Int) = 0 by decide), row197 U7.1.1 (by omega) (by omega)] at hm
  simp only [Option.bind_some] at hm
  have g77 : g7 197 (to + 7) = w := by rw [w7, if_neg (by omega), w6, if_neg (by omega), if_neg (by omega)]; exact hI.2.1
  rw [g77, w1 (i := w) (by omega) (by omega), put197 U7.1.1 (by omega) (by omega)] at hm
  simp only [Option.bind_some] at hm
  have U8 := U7.up197 (b := to + 7) (v := w + 1) (by omega)
  rw [no_w.2.2.1, isWordM U8 (by decide) (by decide)] at hm
  simp only [Option.bind_some] at hm
  have w9 : ∀ b, hup g7 197 (to + 7) (w + 1) 197 b = if b = to + 7 then w + 1 else if b = to + 8 + 3 * w + 2 then v else if b = to + 8 + 3 * w + 1 then op else if b = to + 8 + 3 * w then x else g 197 b := fun b => by
    rw [hup_row]
    unfold up1
    rw [w7, w6]
  have fg9 : CF i to c g c8 (hup g7 197 (to + 7) (w + 1)) := by
    refine ⟨fg6.1.tr ((v3.mono (fun a b z => tk_ln z)).tr f78), fg6.2.1.tr (v4.tr (Fr.up (by unfold lnM; simp; omega))), fun b h1 h2 => ?_, fun b h1 h2 => ?_, ?_⟩
    · rw [w8, if_neg h1, if_neg (by omega), if_neg (by omega), if_neg (by omega)]
    · rw [w9, if_neg h1, if_neg (by omega), if_neg (by omega), if_neg (by omega)]
    · rw [o8 37 (by decide), tkF_row v3 (by decide)]; exact fg6.2.2.2.2
  have hI9 : CI (g 194) t i to (w + 1) c8 (hup g7 197 (to + 7) (w + 1)) := by
    obtain ⟨b1, b2, b3, b4⟩ := hI
    refine ⟨by rw [w8, if_pos rfl], by rw [w9, if_pos rfl], by rw [w9, if_neg (by omega), if_neg (by omega), if_neg (by omega), if_neg (by omega)]; exact b3, fun k k0 k1 => ?_⟩
    by_cases e : k = w
    · subst e
      have y1 : hup g7 197 (to + 7) (k + 1) 197 (to + (8 + 3 * k)) = x := by rw [w9, if_neg (by omega), if_neg (by omega), if_neg (by omega), if_pos (by omega)]
      have y2 : hup g7 197 (to + 7) (k + 1) 197 (to + (8 + 3 * k + 1)) = op := by rw [w9, if_neg (by omega), if_neg (by omega), if_pos (by omega)]
      have y3 : hup g7 197 (to + 7) (k + 1) 197 (to + (8 + 3 * k + 2)) = v := by rw [w9, if_neg (by omega), if_pos (by omega)]
      rw [y1, y2, y3, w8, w8, w8, if_neg (by omega), if_neg (by omega), if_neg (by omega), if_pos (by omega), if_neg (by omega), if_neg (by omega), if_pos (by omega), if_neg (by omega), if_pos (by omega)]
      exact ⟨⟨hx, by omega, hv.1, hv.2⟩, rfl, rfl, rfl⟩
    · have y : ∀ q, q < 3 → 0 ≤ q → hup g7 197 (to + 7) (w + 1) 197 (to + (8 + 3 * k + q)) = g 197 (to + (8 + 3 * k + q)) := fun q q3 q0 => by rw [w9, if_neg (by omega), if_neg (by omega), if_neg (by omega), if_neg (by omega)]
      have y0 := y 0 (by decide) (by decide)
      rw [show 8 + 3 * k + 0 = 8 + 3 * k by omega] at y0
      have u : ∀ q, q < 3 → 0 ≤ q → c8 38 (19 * i + (7 + 3 * k + q)) = c 38 (19 * i + (7 + 3 * k + q)) := fun q q3 q0 => by rw [w8, if_neg (by omega), if_neg (by omega), if_neg (by omega), if_neg (by omega)]
      have u0 := u 0 (by decide) (by decide)
      rw [show 7 + 3 * k + 0 = 7 + 3 * k by omega] at u0
      rw [y0, y 1 (by decide) (by decide), y 2 (by decide) (by decide), u0, u 1 (by decide) (by decide), u 2 (by decide) (by decide)]
      exact b4 k k0 (by omega)
  have e88 : c8 1 8 = 0 := by rw [o8 1 (by decide)]; exact e87'
  have hle : j ≤ nx n (nx n (nx n (nx n j))) := by
    have := @nx_le n (nx n j)
    have := @nx_le n (nx n (nx n j))
    have := @nx_le n (nx n (nx n (nx n j)))
    omega
  generalize hj4 : nx n (nx n (nx n (nx n j))) = j4 at *
  rw [(l37 _ P4.1).1] at hcl
  by_cases kand : K j4 = 144
  · obtain ⟨c9, t1', t2, t3, t4, -⟩ := stepC hC P4
    have ho : fX9_option c8 1 144 = some (1, c9) := by
      unfold fX9_option
      rw [P4.k, if_pos kand, t1']
      rfl
    rw [ho] at hcl
    simp only [Option.bind_some] at hcl
    rw [if_neg (show ¬ (1 : Int) = 0 by decide), w1 (i := w) (by omega) (by omega)] at hcl
    rw [if_pos (show K j4 = 128 + 16 by omega)] at hm
    have fcf : CF i to c g c9 (hup g7 197 (to + 7) (w + 1)) := fg9.tr (CF.tk t3 Fr.rf)
    refine Or.inr ⟨by omega, c9, _, j4, hcl, hm, hle, t2, U8, ?_, hI9.same (tkF_row t3 (by decide)) rfl, by rw [t4]; exact e88, fcf⟩
    exact hD.ln fcf.1 fcf.2.1
  · have ho : fX9_option c8 1 144 = some (0, c8) := by
      unfold fX9_option
      rw [P4.k, if_neg kand]
    rw [ho] at hcl
    simp only [Option.bind_some, if_true] at hcl
    rw [if_neg (show ¬ K j4 = 128 + 16 by omega)] at hm
    refine Or.inl ⟨1, 1, c8, _, hcl, ?_, fg9, Or.inr ⟨rfl, rfl, j4, w + 1, hle, by omega, P4, U8, e88, hI9⟩⟩
    rw [lpO_inl hm]
    refine lpO_inr ?_
    unfold fX12_takesConds_s14
    dsimp only
    rw [if_pos rfl]
end SIM
