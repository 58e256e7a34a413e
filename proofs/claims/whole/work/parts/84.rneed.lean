/-! READING A SCHEMA: needs, defaults -/
section SIM
variable {B : Int → Int} {L M n : Int} {K A V E : Int → Int}
theorem SM.eq19 {j x : Int} {g : hH} (h : SM B L M n K A V E j g) (e : g 192 19 = x) : hup g 192 19 x = g := by
  funext a b
  unfold hup
  by_cases z : a = 192 ∧ b = 19
  · rw [if_pos z, z.1, z.2, e]
  · rw [if_neg z]
theorem readNeed2 {c g : hH} {j : Int} (hC : Chain B L M n K A V E) (hc : SC n K A V j c) (hg : SM B L M n K A V E j g) (hD : DI c g) (hk : K j = 139) : ∃ b b' c' g', fX5_readNeed c 24 = some (b, c') ∧ fX12_readNeed g 192 = some (b', g') ∧ LO B L M n K A V E j c g b b' c' g' := by
  have hs := hD.2.2.1
  have n1 := nx_s hC hc.2.2.2.2 (by omega) (by omega)
  obtain ⟨c1, k1, k2, k3, k4, -⟩ := stepC hC hc
  obtain ⟨g1, m1, m2, m3⟩ := nextM hC hg
  have fg1 : Fr txF g g1 := m3.mono (fun a b z => nx_tx z)
  have e195 : g1 195 = g 195 := txF_row fg1 (by decide)
  have hD1 : DI c1 g1 := hD.sc (k3.mono (fun a b z => tk_sc z)) (fg1.mono (fun a b z => tx_sm z))
  obtain ⟨x, b1, c2, g2, h1, h2, h3⟩ := tableS hC k2 m2 hD1
  unfold fX5_readNeed fX12_readNeed
  rw [m1, ly_24_0 hc.1, k1]
  simp only [Option.bind_some]
  rw [ly_24_0 k2.1, ly_24_1 k2.1, h1, h2]
  simp only [Option.bind_some]
  rcases h3 with ⟨rfl, rfl, ⟨f, fc, fg⟩⟩ | ⟨hx, rfl, e19, S1, S2, fc, fg, e8⟩
  · rw [if_pos rfl, if_pos rfl]
    unfold fX5_readNeed_b41
    rw [if_pos rfl]
    exact ⟨0, 0, c2, g2, rfl, rfl, (k3.tr fc).mono (fun a b z => tk_lc z), (fg1.tr fg).mono (fun a b z => tx_lm z), Or.inl ⟨rfl, rfl, f⟩⟩
  · rw [e195] at hx
    have h4 := hs.1
    have hw := hs.2.2.2.2.1 x hx.1 hx.2
    have hD2 : DI c2 g2 := hD1.sc (fc.mono (fun a b z => tk_sc z)) (fg.mono (fun a b z => tx_sm z))
    have e195' : g2 195 = g 195 := by rw [txF_row fg (by decide)]; exact e195
    obtain ⟨w1', w2'⟩ := colFrom hx.1 (show x < 4 by omega)
    obtain ⟨y, b2, c3, g3, o1, o2, o3⟩ := colLook2 (u := -1) S1 S2 hD2 hx.1 (by rw [e195']; exact hx.2) (Int.le_refl _)
    rw [if_neg (show ¬ x = -1 by omega), if_neg (show ¬ (1 : Int) = 0 by decide), e19, w1', w2', row195 S2.1.1 (by omega) (by omega), ly_24_0 S1.1, ly_24_1 S1.1, o1]
    simp only [Option.bind_some]
    rw [o2]
    simp only [Option.bind_some]
    unfold fX5_readNeed_b41
    rcases o3 with ⟨rfl, rfl, ⟨f, fc3, fg3⟩⟩ | ⟨_, _, z, _⟩ | ⟨hy, _, rfl, e3, rfl, S3, fg3, kj⟩
    · rw [if_pos rfl, if_pos rfl]
      exact ⟨0, 0, c3, g3, rfl, rfl, (k3.tr (fc.tr fc3)).mono (fun a b z => tk_lc z), (fg1.tr (fg.tr fg3)).mono (fun a b z => tx_lm z), Or.inl ⟨rfl, rfl, f⟩⟩
    · omega
    · rw [e195'] at hy
      rw [if_neg (show ¬ y = -1 by omega), if_neg (show ¬ (1 : Int) = 0 by decide), e3, ly_24_1 S1.1, ly_24_0 S1.1]
      have fcc : Fr lcF c c3 := (k3.tr fc).mono (fun a b z => tk_lc z)
      have fgg : Fr lmF g g3 := (fg1.tr (fg.tr fg3)).mono (fun a b z => tx_lm z)
      have e195'' : g3 195 = g 195 := by rw [txF_row fg3 (by decide)]; exact e195'
      have cr : ∀ a, a ≠ 1 → c3 a = c a := fun a ha => by rw [tkF_row fc ha, tkF_row k3 ha]
      have hn := hD.2.1.2.2.2.1 (4 * x + y) (by omega) (by omega)
      rw [show (25 : Int) + 5 = 30 from rfl] at hn
      have i1 : w32 (w32 (x * 4) + y) = 4 * x + y := by rw [w32_id (x := x * 4) (by omega) (by omega), w32_id (by omega) (by omega)]; omega
      have i2 : w32 (w32 (24 + w32 (4 * x)) + y) = 24 + (4 * x + y) := by rw [w1', w32_id (by omega) (by omega)]; omega
      rw [w1'] at i2
      unfold fX4_needTold
      rw [ly_25_8 S1.1, i1, at_in (by omega) (by rw [ll_30 S1.1]; omega), cr 30 (by decide), hn, i2, row195 S3.1.1 (by omega) (by omega), e195'']
      simp only [Option.bind_some]
      by_cases told : g 195 (24 + (4 * x + y)) = 1
      · rw [if_pos told, if_pos told]
        simp only [Option.bind_some, if_neg (show ¬ (1 : Int) = 0 by decide)]
        obtain ⟨c4, g4, p1, p2, f, fc4, fg4⟩ := fail2 (k := 3) S1 S3 (by decide)
        rw [p1, p2]
        exact ⟨0, 0, c4, g4, rfl, rfl, fcc.tr (fc4.mono (fun a b z => tk_lc z)), fgg.tr (fg4.mono (fun a b z => tx_lm z)), Or.inl ⟨rfl, rfl, f⟩⟩
      · rw [if_neg told, if_neg told]
        simp only [Option.bind_some, if_true]
        obtain ⟨c4, p1, p2, p3, p4, -⟩ := stepC hC S1
        rw [p1]
        simp only [Option.bind_some]
        rw [ly_24_1 p2.1, ly_25_8 p2.1, put_in (by omega) (by rw [ll_30 p2.1]; omega), put195 S3.1.1 (by omega) (by omega)]
        simp only [Option.bind_some]
        have S4 := p2.up25 (a := 30) (b := 4 * x + y) (v := 1) (Or.inr (by omega))
        obtain ⟨g5, q1, q2, q3⟩ := nextM hC (S3.up195 (b := 24 + (4 * x + y)) (v := 1) (by omega))
        rw [q1]
        generalize hz : hup c4 30 (4 * x + y) 1 = z at S4 ⊢
        refine ⟨1, 1, z, g5, rfl, rfl, fcc.tr ((p3.mono (fun a b z => tk_lc z)).tr (by rw [← hz]; exact Fr.up (by unfold lcF; simp; omega))), fgg.tr ((Fr.up (by unfold lmF; simp; omega)).tr (q3.mono (fun a b z => tx_lm (nx_tx z)))), Or.inr ⟨rfl, _, S4, ?_, ?_, Or.inl ⟨rfl, q2, ?_⟩⟩⟩
        · have := @nx_le n (nx n j)
          have := @nx_le n (nx n (nx n j))
          omega
        · rw [← hz, hup_off (by decide), p4, e8]; exact k4
        · have w195 : ∀ i, g5 195 i = if i = 24 + (4 * x + y) then 1 else g 195 i := fun i => by
            rw [txF_row (q3.mono (fun a b z => nx_tx z)) (by decide), hup_row, e195'']
            rfl
          have z30 : ∀ i, z 30 i = if i = 4 * x + y then 1 else c 30 i := fun i => by
            rw [← hz, hup_row, tkF_row p3 (by decide), cr _ (by decide)]
            rfl
          have zr : ∀ a, (25 ≤ a ∧ a < 34) → a ≠ 30 → z a = c a := fun a ha hn => by rw [← hz, hup_off hn, tkF_row p3 (by omega), cr _ (by omega)]
          have z25 : ∀ i, i ≠ 99 → z 25 i = c 25 i := fun i _ => by rw [zr 25 (by decide) (by decide)]
          have w198 : g5 198 = g 198 := by rw [txF_row (q3.mono (fun a b z => nx_tx z)) (by decide), hup_off (by decide), txF_row fg3 (by decide), txF_row fg (by decide), txF_row fg1 (by decide)]
          have qo : ∀ i, i ≠ 24 + (4 * x + y) → g5 195 i = g 195 i := fun i hi => by rw [w195, if_neg hi]
          have wn24 : ∀ i, 0 ≤ i → i < 16 → g5 195 (24 + i) = 0 ∨ g5 195 (24 + i) = 1 := fun i i0 i1 => by
            rw [w195]
            by_cases e : i = 4 * x + y
            · rw [if_pos (by omega)]; exact Or.inr rfl
            · rw [if_neg (by omega)]; exact hs.2.2.2.2.2.2.1 i i0 i1
          obtain ⟨dA, ⟨⟨r0, r1, r2, r3⟩, rw', rd, rn, rk, rf, rc⟩, -, ⟨nm1, nm2⟩, -⟩ := hD
          have hs0 := hs.1
          have hs1 := hs.2.1
          have hs2 := hs.2.2.1
          have hs3 := hs.2.2.2.1
          refine ⟨schAt_25 S4.1, ⟨⟨?_, ?_, ?_, ?_⟩, fun t t0 t1 => ?_, fun i i0 i1 => ?_, fun i i0 i1 => ?_, fun k k0 k1 => ?_, fun f f0 f1 => ?_, fun x x0 x1 => ?_⟩, ?_, ⟨fun t t0 t1 => ?_, fun t x t0 t1 x0 x1 => ?_⟩, Or.inr rfl⟩
          · rw [z25 0 (by decide), qo 0 (by omega)]; exact r0
          · rw [z25 1 (by decide), qo 1 (by omega)]; exact r1
          · rw [z25 2 (by decide), qo 2 (by omega)]; exact r2
          · rw [z25 3 (by decide), qo 3 (by omega)]; exact r3
          · rw [qo 0 (by omega)] at t1
            rw [zr _ (by decide) (by decide), qo (4 + t) (by omega)]; exact rw' t t0 t1
          · rw [zr _ (by decide) (by decide), qo (8 + i) (by omega)]; exact rd i i0 i1
          · rw [show (25 : Int) + 5 = 30 from rfl, z30, w195]
            by_cases e : i = 4 * x + y
            · rw [if_pos e, if_pos (by omega)]
            · rw [if_neg e, if_neg (by omega)]; exact rn i i0 i1
          · rw [qo 1 (by omega)] at k1
            rw [zr _ (by decide) (by decide), qo (40 + k) (by omega), qo (46 + k) (by omega), qo (52 + k) (by omega)]
            exact rk k k0 k1
          · rw [qo 2 (by omega)] at f1
            rw [zr _ (by decide) (by decide), qo (58 + f) (by omega), qo (76 + f) (by omega), qo (82 + f) (by omega), qo (88 + f) (by omega), qo (94 + f) (by omega), qo (100 + f) (by omega), qo (106 + f) (by omega), qo (64 + f) (by omega), qo (70 + f) (by omega)]
            exact rf f f0 f1
          · rw [qo 3 (by omega)] at x1
            rw [zr _ (by decide) (by decide), qo (112 + x) (by omega), qo (118 + x) (by omega), qo (124 + x) (by omega), qo (136 + x) (by omega), qo (130 + x) (by omega), qo (142 + x) (by omega)]
            exact rc x x0 x1
          · refine hs.ext (by rw [qo 0 (by omega)]; exact ⟨Int.le_refl _, hs.1.2⟩) (by rw [qo 1 (by omega)]; exact ⟨Int.le_refl _, hs.2.1.2⟩) (by rw [qo 2 (by omega)]; exact ⟨Int.le_refl _, hs.2.2.1.2⟩) (by rw [qo 3 (by omega)]; exact ⟨Int.le_refl _, hs.2.2.2.1.2⟩) (fun t t0 t1 => qo _ (by omega)) (fun t t0 t1 => by rw [qo 0 (by omega)] at t1; omega) (fun i i0 i1 => by rw [qo (8 + i) (by omega)]; exact hs.2.2.2.2.2.1 i i0 i1) wn24 (fun k k0 k1 => ⟨qo _ (by omega), qo _ (by omega), qo _ (by omega)⟩) (fun k k0 k1 => by rw [qo 1 (by omega)] at k1; omega) (fun f f0 f1 => ⟨qo _ (by omega), qo _ (by omega), qo _ (by omega), qo _ (by omega), qo _ (by omega), qo _ (by omega), qo _ (by omega), qo _ (by omega), qo _ (by omega)⟩) (fun f f0 f1 => by rw [qo 2 (by omega)] at f1; omega) (fun x x0 x1 => ⟨qo _ (by omega), qo _ (by omega), qo _ (by omega), qo _ (by omega), qo _ (by omega), qo _ (by omega)⟩) (fun x x0 x1 => by rw [qo 3 (by omega)] at x1; omega)
          · rw [qo 0 (by omega)] at t1
            rw [zr _ (by decide) (by decide), w198]; exact nm1 t t0 t1
          · rw [qo 0 (by omega)] at t1
            rw [qo (4 + t) (by omega)] at x1
            rw [zr _ (by decide) (by decide), w198]; exact nm2 t x t0 t1 x0 x1
theorem readDefault2 {c g : hH} {j : Int} (hC : Chain B L M n K A V E) (hc : SC n K A V j c) (hg : SM B L M n K A V E j g) (hD : DI c g) (hk : K j = 138) : ∃ b b' c' g', fX5_readDefault c 24 = some (b, c') ∧ fX12_readDefault g 192 = some (b', g') ∧ LO B L M n K A V E j c g b b' c' g' := by
  have hs := hD.2.2.1
  have n1 := nx_s hC hc.2.2.2.2 (by omega) (by omega)
  obtain ⟨c1, k1, k2, k3, k4, -⟩ := stepC hC hc
  obtain ⟨g1, m1, m2, m3⟩ := nextM hC hg
  have fg1 : Fr txF g g1 := m3.mono (fun a b z => nx_tx z)
  have e195 : g1 195 = g 195 := txF_row fg1 (by decide)
  have hD1 : DI c1 g1 := hD.sc (k3.mono (fun a b z => tk_sc z)) (fg1.mono (fun a b z => tx_sm z))
  obtain ⟨x, b1, c2, g2, h1, h2, h3⟩ := tableS hC k2 m2 hD1
  unfold fX5_readDefault fX12_readDefault
  rw [m1, ly_24_0 hc.1, k1]
  simp only [Option.bind_some]
  rw [ly_24_0 k2.1, ly_24_1 k2.1, h1, h2]
  simp only [Option.bind_some]
  rcases h3 with ⟨rfl, rfl, ⟨f, fc, fg⟩⟩ | ⟨hx, rfl, e19, S1, S2, fc, fg, e8⟩
  · rw [if_pos rfl, if_pos rfl]
    unfold fX5_readDefault_b41
    rw [if_pos rfl]
    exact ⟨0, 0, c2, g2, rfl, rfl, (k3.tr fc).mono (fun a b z => tk_lc z), (fg1.tr fg).mono (fun a b z => tx_lm z), Or.inl ⟨rfl, rfl, f⟩⟩
  · rw [e195] at hx
    have h4 := hs.1
    have hw := hs.2.2.2.2.1 x hx.1 hx.2
    have hD2 : DI c2 g2 := hD1.sc (fc.mono (fun a b z => tk_sc z)) (fg.mono (fun a b z => tx_sm z))
    have e195' : g2 195 = g 195 := by rw [txF_row fg (by decide)]; exact e195
    obtain ⟨w1', w2'⟩ := colFrom hx.1 (show x < 4 by omega)
    obtain ⟨y, b2, c3, g3, o1, o2, o3⟩ := colLook2 (u := -1) S1 S2 hD2 hx.1 (by rw [e195']; exact hx.2) (Int.le_refl _)
    rw [if_neg (show ¬ x = -1 by omega), if_neg (show ¬ (1 : Int) = 0 by decide), e19, w1', w2', row195 S2.1.1 (by omega) (by omega), ly_24_0 S1.1, ly_24_1 S1.1, o1]
    simp only [Option.bind_some]
    rw [o2]
    simp only [Option.bind_some]
    unfold fX5_readDefault_b41
    rcases o3 with ⟨rfl, rfl, ⟨f, fc3, fg3⟩⟩ | ⟨_, _, z, _⟩ | ⟨hy, _, rfl, e3, rfl, S3, fg3, kj⟩
    · rw [if_pos rfl, if_pos rfl]
      exact ⟨0, 0, c3, g3, rfl, rfl, (k3.tr (fc.tr fc3)).mono (fun a b z => tk_lc z), (fg1.tr (fg.tr fg3)).mono (fun a b z => tx_lm z), Or.inl ⟨rfl, rfl, f⟩⟩
    · omega
    · rw [e195'] at hy
      rw [if_neg (show ¬ y = -1 by omega), if_neg (show ¬ (1 : Int) = 0 by decide), e3, ly_24_1 S1.1, ly_24_0 S1.1]
      have fcc : Fr lcF c c3 := (k3.tr fc).mono (fun a b z => tk_lc z)
      have fgg : Fr lmF g g3 := (fg1.tr (fg.tr fg3)).mono (fun a b z => tx_lm z)
      have e195'' : g3 195 = g 195 := by rw [txF_row fg3 (by decide)]; exact e195'
      have cr : ∀ a, a ≠ 1 → c3 a = c a := fun a ha => by rw [tkF_row fc ha, tkF_row k3 ha]
      have i1 : w32 (w32 (x * 4) + y) = 4 * x + y := by rw [w32_id (x := x * 4) (by omega) (by omega), w32_id (by omega) (by omega)]; omega
      have i2 : w32 (w32 (8 + w32 (4 * x)) + y) = 8 + (4 * x + y) := by rw [w32_id (x := 4 * x) (by omega) (by omega), w32_id (x := 8 + 4 * x) (by omega) (by omega), w32_id (by omega) (by omega)]; omega
      have hdv := hs.2.2.2.2.2.1 (4 * x + y) (by omega) (by omega)
      have hdf := defaultOf_ok (c := y) hD2.1 hD2.2.1 hD2.2.2.1 (t := x) (by rw [e195']; exact hx) (by rw [e195']; exact hy.2) (by omega)
      rw [if_neg (show ¬ y < 0 by omega), e195'] at hdf
      rw [hdf, i2, row195 S3.1.1 (by omega) (by omega), e195'']
      simp only [Option.bind_some]
      by_cases told : g 195 (8 + (4 * x + y)) = -1
      · rw [if_pos told, if_pos (show g 195 (8 + (4 * x + y)) < 0 by omega)]
        obtain ⟨c4, p1, p2, p3, p4, -⟩ := stepC hC S1
        obtain ⟨g4, q1, q2, q3⟩ := nextM hC S3
        rw [p1, q1]
        simp only [Option.bind_some]
        obtain ⟨v, b3, c5, g5, u1, u2, u3⟩ := takeNumber2 hC p2 q2
        rw [ly_24_0 p2.1, u1, u2]
        simp only [Option.bind_some]
        have L5 : Lay c5 := by
          rcases u3 with ⟨_, _, _, fc5, _⟩ | ⟨_, _, _, ⟨T1, _⟩⟩
          · exact fc5.lay p2.1 tkF_lay1 tkF_lay2
          · exact T1.1
        rw [ly_24_1 L5, ly_25_7 L5, i1, put_in (by omega) (by rw [ll_29 L5]; omega)]
        simp only [Option.bind_some]
        rcases u3 with ⟨rfl, rfl, ⟨k, a, f1, f2, f3⟩, fc5, fg5⟩ | ⟨hv, rfl, e5, T1, T2, fc5, fg5, e58⟩
        · rw [if_pos rfl, if_pos rfl]
          refine ⟨0, 0, _, g5, rfl, rfl, fcc.tr (((p3.tr fc5).mono (fun a b z => tk_lc z)).tr (Fr.up (by unfold lcF; simp; omega))), fgg.tr (((q3.mono (fun a b z => nx_tx z)).tr fg5).mono (fun a b z => tx_lm z)), Or.inl ⟨rfl, rfl, k, a, ⟨?_, ?_⟩, f2, f3⟩⟩
          · rw [hup_off (by decide)]; exact f1.1
          · rw [hup_off (by decide)]; exact f1.2
        · rw [if_neg (show ¬ v = -1 by omega), if_neg (show ¬ (1 : Int) = 0 by decide), e5, put195 T2.1.1 (by omega) (by omega)]
          simp only [Option.bind_some]
          have S4 := T1.up25 (a := 29) (b := 4 * x + y) (v := v) (Or.inr (by omega))
          have U2 := T2.up195 (b := 8 + (4 * x + y)) (v := v) (by omega)
          generalize hz : hup c5 29 (4 * x + y) v = z at S4 ⊢
          generalize hW : hup g5 195 (8 + (4 * x + y)) v = w at U2 ⊢
          refine ⟨1, 1, z, w, rfl, rfl, fcc.tr (((p3.tr fc5).mono (fun a b z => tk_lc z)).tr (by rw [← hz]; exact Fr.up (by unfold lcF; simp; omega))), fgg.tr ((((q3.mono (fun a b z => nx_tx z)).tr fg5).mono (fun a b z => tx_lm z)).tr (by rw [← hW]; exact Fr.up (by unfold lmF; simp; omega))), Or.inr ⟨rfl, _, S4, ?_, ?_, Or.inl ⟨rfl, U2, ?_⟩⟩⟩
          · have := @nx_le n (nx n j)
            have := @nx_le n (nx n (nx n j))
            have := @nx_le n (nx n (nx n (nx n j)))
            omega
          · rw [← hz, hup_off (by decide), e58, p4, e8]; exact k4
          · have w195 : ∀ i, w 195 i = if i = 8 + (4 * x + y) then v else g 195 i := fun i => by
              rw [← hW, hup_row, txF_row fg5 (by decide), txF_row (q3.mono (fun a b z => nx_tx z)) (by decide), e195'']
              rfl
            have z29 : ∀ i, z 29 i = if i = 4 * x + y then v else c 29 i := fun i => by
              rw [← hz, hup_row, tkF_row fc5 (by decide), tkF_row p3 (by decide), cr _ (by decide)]
              rfl
            have zr : ∀ a, (25 ≤ a ∧ a < 34) → a ≠ 29 → z a = c a := fun a ha hn => by rw [← hz, hup_off hn, tkF_row fc5 (by omega), tkF_row p3 (by omega), cr _ (by omega)]
            have z25 : ∀ i, i ≠ 99 → z 25 i = c 25 i := fun i _ => by rw [zr 25 (by decide) (by decide)]
            have w198 : w 198 = g 198 := by rw [← hW, hup_off (by decide), txF_row fg5 (by decide), txF_row (q3.mono (fun a b z => nx_tx z)) (by decide), txF_row fg3 (by decide), txF_row fg (by decide), txF_row fg1 (by decide)]
            have qo : ∀ i, i ≠ 8 + (4 * x + y) → w 195 i = g 195 i := fun i hi => by rw [w195, if_neg hi]
            have wn8 : ∀ i, 0 ≤ i → i < 16 → -1 ≤ w 195 (8 + i) ∧ w 195 (8 + i) ≤ 99 := fun i i0 i1 => by
              rw [w195]
              by_cases e : i = 4 * x + y
              · rw [if_pos (by omega)]; omega
              · rw [if_neg (by omega)]; exact hs.2.2.2.2.2.1 i i0 i1
            obtain ⟨dA, ⟨⟨r0, r1, r2, r3⟩, rw', rd, rn, rk, rf, rc⟩, -, ⟨nm1, nm2⟩, -⟩ := hD
            have hs0 := hs.1
            have hs1 := hs.2.1
            have hs2 := hs.2.2.1
            have hs3 := hs.2.2.2.1
            refine ⟨schAt_25 S4.1, ⟨⟨?_, ?_, ?_, ?_⟩, fun t t0 t1 => ?_, fun i i0 i1 => ?_, fun i i0 i1 => ?_, fun k k0 k1 => ?_, fun f f0 f1 => ?_, fun x x0 x1 => ?_⟩, ?_, ⟨fun t t0 t1 => ?_, fun t x t0 t1 x0 x1 => ?_⟩, Or.inr rfl⟩
            · rw [z25 0 (by decide), qo 0 (by omega)]; exact r0
            · rw [z25 1 (by decide), qo 1 (by omega)]; exact r1
            · rw [z25 2 (by decide), qo 2 (by omega)]; exact r2
            · rw [z25 3 (by decide), qo 3 (by omega)]; exact r3
            · rw [qo 0 (by omega)] at t1
              rw [zr _ (by decide) (by decide), qo (4 + t) (by omega)]; exact rw' t t0 t1
            · rw [show (25 : Int) + 4 = 29 from rfl, z29, w195]
              by_cases e : i = 4 * x + y
              · rw [if_pos e, if_pos (by omega)]
              · rw [if_neg e, if_neg (by omega)]; exact rd i i0 i1
            · rw [zr _ (by decide) (by decide), qo (24 + i) (by omega)]; exact rn i i0 i1
            · rw [qo 1 (by omega)] at k1
              rw [zr _ (by decide) (by decide), qo (40 + k) (by omega), qo (46 + k) (by omega), qo (52 + k) (by omega)]
              exact rk k k0 k1
            · rw [qo 2 (by omega)] at f1
              rw [zr _ (by decide) (by decide), qo (58 + f) (by omega), qo (76 + f) (by omega), qo (82 + f) (by omega), qo (88 + f) (by omega), qo (94 + f) (by omega), qo (100 + f) (by omega), qo (106 + f) (by omega), qo (64 + f) (by omega), qo (70 + f) (by omega)]
              exact rf f f0 f1
            · rw [qo 3 (by omega)] at x1
              rw [zr _ (by decide) (by decide), qo (112 + x) (by omega), qo (118 + x) (by omega), qo (124 + x) (by omega), qo (136 + x) (by omega), qo (130 + x) (by omega), qo (142 + x) (by omega)]
              exact rc x x0 x1
            · refine hs.ext (by rw [qo 0 (by omega)]; exact ⟨Int.le_refl _, hs.1.2⟩) (by rw [qo 1 (by omega)]; exact ⟨Int.le_refl _, hs.2.1.2⟩) (by rw [qo 2 (by omega)]; exact ⟨Int.le_refl _, hs.2.2.1.2⟩) (by rw [qo 3 (by omega)]; exact ⟨Int.le_refl _, hs.2.2.2.1.2⟩) (fun t t0 t1 => qo _ (by omega)) (fun t t0 t1 => by rw [qo 0 (by omega)] at t1; omega) wn8 (fun i i0 i1 => by rw [qo (24 + i) (by omega)]; exact hs.2.2.2.2.2.2.1 i i0 i1) (fun k k0 k1 => ⟨qo _ (by omega), qo _ (by omega), qo _ (by omega)⟩) (fun k k0 k1 => by rw [qo 1 (by omega)] at k1; omega) (fun f f0 f1 => ⟨qo _ (by omega), qo _ (by omega), qo _ (by omega), qo _ (by omega), qo _ (by omega), qo _ (by omega), qo _ (by omega), qo _ (by omega), qo _ (by omega)⟩) (fun f f0 f1 => by rw [qo 2 (by omega)] at f1; omega) (fun x x0 x1 => ⟨qo _ (by omega), qo _ (by omega), qo _ (by omega), qo _ (by omega), qo _ (by omega), qo _ (by omega)⟩) (fun x x0 x1 => by rw [qo 3 (by omega)] at x1; omega)
            · rw [qo 0 (by omega)] at t1
              rw [zr _ (by decide) (by decide), w198]; exact nm1 t t0 t1
            · rw [qo 0 (by omega)] at t1
              rw [qo (4 + t) (by omega)] at x1
              rw [zr _ (by decide) (by decide), w198]; exact nm2 t x t0 t1 x0 x1
      · rw [if_neg told, if_neg (show ¬ g 195 (8 + (4 * x + y)) < 0 by omega)]
        obtain ⟨c4, g4, p1, p2, f, fc4, fg4⟩ := fail2 (k := 3) S1 S3 (by decide)
        rw [p1, p2]
        exact ⟨0, 0, c4, g4, rfl, rfl, fcc.tr (fc4.mono (fun a b z => tk_lc z)), fgg.tr (fg4.mono (fun a b z => tx_lm z)), Or.inl ⟨rfl, rfl, f⟩⟩
end SIM
