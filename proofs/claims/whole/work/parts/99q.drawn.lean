/-! DRAWS: a drawn line, a draw, all draws -/
def dknd (act on : Int) : Int := if act < 3 then 141 else if act = 3 then 142 else if act = 4 then 145 else if on = 0 then 146 else 147
theorem R2.S0 {c g : hH} (h : R2 c g) : c 4 0 = g 194 0 := h.2.2.1.1.1
theorem drawLine2 {c g : hH} {x : Int} (hR : R2 c g) (hx : c 0 18 = x) (hx' : g 192 51 = x) (hS : 1 ≤ g 194 0) : ∃ c' t g2, fX11_drawLine c 0 = some c' ∧ Lay c' ∧ Fr dlC c c' ∧ c' 38 0 = dknd (drw x 6) (g 194 149) ∧ fX12_draw g 192 6 = some (drw x 6, hup g 192 51 (lcg x)) ∧ fX12_draw (hup g 192 51 (lcg x)) 192 (g 194 0) = some (t, g2) ∧ Lay g2 ∧ Fr dlM g g2 ∧ g2 194 = g 194 ∧
    ((¬ drw x 6 < 5 ∧ c' 0 18 = g2 192 51) ∨ (drw x 6 < 5 ∧ ∃ g3, fX12_drawsLine g2 192 (drw x 6) t = some g3 ∧ Lay g3 ∧ Fr dlM g g3 ∧ c' 0 18 = g3 192 51 ∧ LOk (g 194) (fun q => g3 197 (0 + q)) ∧ LinC (g 194) c' 0 (fun q => g3 197 (0 + q)))) := by
  obtain ⟨Lc, Lg, hSch, hs, hH, hO⟩ := id hR
  have b0 := hs.1
  obtain ⟨a0, a1⟩ := drw_b (x := x) (n := 6) (by decide) (by decide)
  obtain ⟨t0, t1⟩ := drw_b (x := lcg x) (n := g 194 0) hS (by omega)
  generalize hact : drw x 6 = act at a0 a1
  generalize htt : drw (lcg x) (g 194 0) = t at t0 t1
  have hw := hs.2.2.2.2.1 t t0 t1
  have L1 : Lay (hup c 0 18 (lcg x)) := Lc.upF (by decide)
  have L2 : Lay (hup (hup c 0 18 (lcg x)) 0 18 (lcg (lcg x))) := L1.upF (by decide)
  have G1 : Lay (hup g 192 51 (lcg x)) := Lg.upF (by decide)
  have G2 : Lay (hup (hup g 192 51 (lcg x)) 192 51 (lcg (lcg x))) := G1.upF (by decide)
  have F2 : Fr dlC c (hup (hup c 0 18 (lcg x)) 0 18 (lcg (lcg x))) := (Fr.up (by decide)).tr (Fr.up (by decide))
  have H2 : Fr dlM g (hup (hup g 192 51 (lcg x)) 192 51 (lcg (lcg x))) := (Fr.up (by decide)).tr (Fr.up (by decide))
  have d1 : fX12_draw g 192 6 = some (act, hup g 192 51 (lcg x)) := by rw [drawM hx' (by decide), hact]
  have d2 : fX12_draw (hup g 192 51 (lcg x)) 192 (g 194 0) = some (t, hup (hup g 192 51 (lcg x)) 192 51 (lcg (lcg x))) := by rw [drawM (x := lcg x) hup_at hS, htt]
  have hcl : fX11_drawLine c 0 = fX11_drawLine_b80 (hup (hup c 0 18 (lcg x)) 0 18 (lcg (lcg x))) 0 t (g 194 (4 + t)) (dknd act (g 194 149)) := by
    have W := width_ok (p := 4) (schAt4 L2) (SchR.rows (h := c) (h' := hup (hup c 0 18 (lcg x)) 0 18 (lcg (lcg x))) (fun k k0 k1 => by rw [hup_off (by omega), hup_off (by omega)]) hSch) hs t
    unfold fX11_drawLine
    rw [drawC hx (by decide), hact]
    simp only [Option.bind_some]
    rw [ly_0_1 L1, show hup c 0 18 (lcg x) 4 0 = g 194 0 by rw [hup_off (by decide)]; exact hR.S0, drawC (x := lcg x) hup_at hS, htt]
    simp only [Option.bind_some]
    rw [ly_0_1 L2, W, if_pos ⟨t0, t1⟩]
    simp only [Option.bind_some]
    rw [ly_0_2 L2, show hup (hup c 0 18 (lcg x)) 0 18 (lcg (lcg x)) 13 2 = g 194 149 by rw [hup_off (by decide), hup_off (by decide)]; exact hH.2.2.1]
    unfold dknd
    split
    · rfl
    · split
      · rfl
      · split
        · rfl
        · split <;> rfl
  have r194 : hup (hup g 192 51 (lcg x)) 192 51 (lcg (lcg x)) 194 = g 194 := by rw [hup_off (by decide), hup_off (by decide)]
  have x2c : hup (hup c 0 18 (lcg x)) 0 18 (lcg (lcg x)) 0 18 = lcg (lcg x) := hup_at
  have x2g : hup (hup g 192 51 (lcg x)) 192 51 (lcg (lcg x)) 192 51 = lcg (lcg x) := hup_at
  generalize hc2 : hup (hup c 0 18 (lcg x)) 0 18 (lcg (lcg x)) = c2 at hcl L2 F2 x2c
  generalize hg2 : hup (hup g 192 51 (lcg x)) 192 51 (lcg (lcg x)) = g2 at d2 G2 H2 x2g r194
  generalize lcg (lcg x) = y at x2c x2g
  obtain ⟨c3, s1, s2, s3, s4, s5, s6, s7⟩ := startLine_ok (i := 0) (w := dknd act (g 194 149)) (t := t) L2 (by decide) (by decide)
  have F3 : Fr dlC c2 c3 := s2.mono (fun a b z => by unfold dlC; simp at z ⊢; omega)
  have L3 : Lay c3 := F3.lay L2 dlC_1 dlC_2
  have x3 : c3 0 18 = y := by rw [s2 0 18 (by simp)]; exact x2c
  have hb80 : fX11_drawLine_b80 c2 0 t (g 194 (4 + t)) (dknd act (g 194 149)) = if dknd act (g 194 149) = 141 then lpO (fX11_drawLine_s104 c3 0 (g 194 (4 + t))) (c3, 0) else if dknd act (g 194 149) = 142 ∨ dknd act (g 194 149) = 145 then fX11_drawLine_b166 c3 0 (g 194 (4 + t)) (dknd act (g 194 149)) else some c3 := by
    unfold fX11_drawLine_b80
    rw [ly_0_6 L2, s1]
    simp only [Option.bind_some]
    by_cases k1 : dknd act (g 194 149) = 141
    · rw [if_pos k1, if_pos k1]
    · rw [if_neg k1, if_neg k1]
      by_cases k2 : dknd act (g 194 149) = 142
      · rw [if_pos k2, if_pos (Or.inl k2)]
      · rw [if_neg k2]
        by_cases k3 : dknd act (g 194 149) = 145
        · rw [if_pos k3, if_pos (Or.inr k3)]
        · rw [if_neg k3, if_neg (by omega)]
  have e30 : c3 38 0 = dknd act (g 194 149) := s3
  have e31 : c3 38 1 = t := s4
  have e32 : c3 38 2 = 0 := s5
  have e3k : ∀ k, 3 ≤ k → k < 7 → c3 38 k = -1 := fun k k0 k1 => by
    have := s6 k k0 k1
    rw [show 19 * 0 + k = k by omega] at this
    exact this
  rw [hb80] at hcl
  by_cases q5 : act < 5
  · -- the model's first places
    have P1 : Lay (hup g2 197 1 t) := G2.upA (by decide) (by decide)
    have P2 : Lay (hup (hup g2 197 1 t) 197 2 0) := P1.upA (by decide) (by decide)
    have P3 : Lay (hup (hup (hup g2 197 1 t) 197 2 0) 197 7 0) := P2.upA (by decide) (by decide)
    have P4 : ∀ v, Lay (hup (hup (hup (hup g2 197 1 t) 197 2 0) 197 7 0) 197 0 v) := fun v => P3.upA (by decide) (by decide)
    have hdl : fX12_drawsLine g2 192 act t = fX12_drawsLine_b39 (hup (hup (hup g2 197 1 t) 197 2 0) 197 7 0) 192 act t (if act < 3 then 0 else act - 2) 0 197 := by
      unfold fX12_drawsLine
      rw [put197 G2 (by decide) (by decide)]
      simp only [Option.bind_some]
      rw [put197 P1 (by decide) (by decide)]
      simp only [Option.bind_some]
      rw [put197 P2 (by decide) (by decide)]
      simp only [Option.bind_some]
      rw [ly_192_9 P3, w32_id (x := act - 2) (by omega) (by omega)]
      split <;> rfl
    have fP : ∀ v, Fr dlM g (hup (hup (hup (hup g2 197 1 t) 197 2 0) 197 7 0) 197 0 v) := fun v => (((H2.tr (Fr.up (by decide))).tr (Fr.up (by decide))).tr (Fr.up (by decide))).tr (Fr.up (by decide))
    by_cases q3 : act < 3
    · have kd : dknd act (g 194 149) = 141 := by unfold dknd; rw [if_pos q3]
      rw [kd, if_pos rfl] at hcl
      rw [if_pos q3] at hdl
      have r7 : ∀ b, hup (hup (hup (hup g2 197 1 t) 197 2 0) 197 7 0) 197 0 0 197 b = if b = 0 then 0 else if b = 7 then 0 else if b = 2 then 0 else if b = 1 then t else g2 197 b := fun b => by
        rw [hup_row, hup_row, hup_row, hup_row]
        rfl
      have o7 : ∀ a, a ≠ 197 → hup (hup (hup (hup g2 197 1 t) 197 2 0) 197 7 0) 197 0 0 a = g2 a := fun a ha => by rw [hup_off ha, hup_off ha, hup_off ha, hup_off ha]
      have f7 := fP 0
      have L7 := P4 0
      have hb39 : fX12_drawsLine_b39 (hup (hup (hup g2 197 1 t) 197 2 0) 197 7 0) 192 act t 0 0 197 = lpO (fX12_drawsLine_s47 (hup (hup (hup (hup g2 197 1 t) 197 2 0) 197 7 0) 197 0 0) 192 t) (hup (hup (hup (hup g2 197 1 t) 197 2 0) 197 7 0) 197 0 0, 0) := by
        unfold fX12_drawsLine_b39
        rw [aput_in (by decide) (by rw [ll_197 P3]; decide)]
        simp only [Option.bind_some]
        rw [if_pos q3]
      rw [hb39] at hdl
      generalize hup (hup (hup (hup g2 197 1 t) 197 2 0) 197 7 0) 197 0 0 = g7 at hdl r7 o7 f7 L7
      have g7s : g7 194 = g 194 := by rw [o7 194 (by decide)]; exact r194
      obtain ⟨c', g', y1, y2, y3, y4, y5, y6, y7, y8, y9, y10⟩ := drawVals (W := g 194 (4 + t)) (c0 := c3) (g0 := g7) t0 (by omega) hw.2 c3 g7 (g 194 (4 + t)).toNat 0 y c3 g7 (by omega) (Int.le_refl _) L3 L7 (by rw [g7s]) x3 (by rw [o7 192 (by decide)]; exact x2g) ⟨fun k k0 k1 => by omega, fun k k0 k1 => by rw [show 19 * 0 + (3 + k) = 3 + k by omega]; exact e3k _ (by omega) (by omega)⟩ Fr.rf Fr.rf (fun _ _ => rfl) (fun _ _ => rfl)
      obtain ⟨z1, z2⟩ := insEnd (S := g 194) (c := c') (g := g') ⟨t0, t1⟩ hw.2 (by rw [y9 0 (by omega), e30, kd]) (by rw [y9 1 (by omega)]; exact e31) (by rw [y9 2 (by omega)]; exact e32) (by rw [y10 0 (by omega), r7, if_pos rfl]) (by rw [y10 1 (by omega), r7, if_neg (by decide), if_neg (by decide), if_neg (by decide), if_pos rfl]) (by rw [y10 2 (by omega), r7, if_neg (by decide), if_neg (by decide), if_pos rfl]) (by rw [y10 7 (by omega), r7, if_neg (by decide), if_pos rfl]) y6
      exact ⟨c', t, g2, by rw [hcl]; exact y1, y3, (F2.tr F3).tr y7, by rw [y9 0 (by omega), e30, kd], d1, d2, G2, H2, r194, Or.inr ⟨q5, g', by rw [hdl]; exact y2, y4, f7.tr y8, y5, z1, z2⟩⟩
    · -- deletion, setting
      obtain ⟨q, hq, hq2⟩ : ∃ q : Int, (q = 1 ∨ q = 2) ∧ act = q + 2 := ⟨act - 2, by omega, by omega⟩
      have kd : dknd act (g 194 149) = if q = 1 then 142 else 145 := by
        unfold dknd
        rcases hq with rfl | rfl
        · rw [if_neg q3, if_pos (by omega), if_pos rfl]
        · rw [if_neg q3, if_neg (by omega), if_pos (by omega), if_neg (by decide)]
      have kd141 : ¬ dknd act (g 194 149) = 141 := by rw [kd]; split <;> decide
      have kd2 : dknd act (g 194 149) = 142 ∨ dknd act (g 194 149) = 145 := by rw [kd]; split; exact Or.inl rfl; exact Or.inr rfl
      have kd145 : dknd act (g 194 149) = 145 ↔ q = 2 := by
        rw [kd]
        rcases hq with rfl | rfl
        · decide
        · decide
      rw [if_neg kd141, if_pos kd2] at hcl
      rw [if_neg q3, show act - 2 = q by omega] at hdl
      obtain ⟨k0, k1⟩ := drw_b (x := y) (n := g 194 (4 + t)) hw.1 (by omega)
      obtain ⟨v0, v1⟩ := drw_b (x := lcg y) (n := 4) (by decide) (by decide)
      obtain ⟨u0, u1⟩ := drw_b (x := lcg (lcg y)) (n := 4) (by decide) (by decide)
      generalize hk : drw y (g 194 (4 + t)) = k at k0 k1
      generalize hv : drw (lcg y) 4 = v at v0 v1
      generalize hu : drw (lcg (lcg y)) 4 = u at u0 u1
      -- the class
      have A1 : Lay (hup c3 0 18 (lcg y)) := L3.upF (by decide)
      have A2 : Lay (hup (hup c3 0 18 (lcg y)) 0 18 (lcg (lcg y))) := A1.upF (by decide)
      generalize hc4 : hup (hup c3 0 18 (lcg y)) 0 18 (lcg (lcg y)) = c4 at A2
      have c438 : c4 38 = c3 38 := by rw [← hc4, hup_off (by decide), hup_off (by decide)]
      have c4x : c4 0 18 = lcg (lcg y) := by rw [← hc4, hup_at]
      have f4 : Fr dlC c3 c4 := by rw [← hc4]; exact (Fr.up (by decide)).tr (Fr.up (by decide))
      have B1 : Lay (hup c4 38 7 k) := A2.upA (by decide) (by decide)
      have B2 : Lay (hup (hup c4 38 7 k) 38 8 61) := B1.upA (by decide) (by decide)
      have B3 : Lay (hup (hup (hup c4 38 7 k) 38 8 61) 38 9 v) := B2.upA (by decide) (by decide)
      have B4 : Lay (hup (hup (hup (hup c4 38 7 k) 38 8 61) 38 9 v) 38 2 1) := B3.upA (by decide) (by decide)
      have B5 : Lay (hup (hup (hup (hup (hup c4 38 7 k) 38 8 61) 38 9 v) 38 2 1) 38 3 k) := B4.upA (by decide) (by decide)
      have hadd : fX2_addCond c4 37 0 k 61 v = some (hup (hup (hup (hup c4 38 7 k) 38 8 61) 38 9 v) 38 2 1) := by
        unfold fX2_addCond
        rw [part_ok A2 (by decide) (by decide) (by decide) (by decide), c438]
        simp only [Option.bind_some]
        rw [show c3 38 (19 * 0 + 2) = 0 from e32, if_neg (by decide), if_pos (by decide), show w32 (7 + w32 (0 * 3)) = 7 by decide, show w32 (7 + 1) = 8 by decide, show w32 (7 + 2) = 9 by decide, show w32 (0 + 1) = 1 by decide, setPart_ok A2 (by decide) (by decide) (by decide) (by decide)]
        simp only [Option.bind_some]
        rw [show (19 * 0 + 7 : Int) = 7 by decide, setPart_ok B1 (by decide) (by decide) (by decide) (by decide)]
        simp only [Option.bind_some]
        rw [show (19 * 0 + 8 : Int) = 8 by decide, setPart_ok B2 (by decide) (by decide) (by decide) (by decide)]
        simp only [Option.bind_some]
        rw [show (19 * 0 + 9 : Int) = 9 by decide, setPart_ok B3 (by decide) (by decide) (by decide) (by decide)]
        simp only [Option.bind_some]
        rfl
      have fB : Fr dlC c4 (hup (hup (hup (hup (hup c4 38 7 k) 38 8 61) 38 9 v) 38 2 1) 38 3 k) := ((((Fr.up (by decide)).tr (Fr.up (by decide))).tr (Fr.up (by decide))).tr (Fr.up (by decide))).tr (Fr.up (by decide))
      have rB : ∀ b, hup (hup (hup (hup (hup c4 38 7 k) 38 8 61) 38 9 v) 38 2 1) 38 3 k 38 b = if b = 3 then k else if b = 2 then 1 else if b = 9 then v else if b = 8 then 61 else if b = 7 then k else c3 38 b := fun b => by
        rw [hup_row, hup_row, hup_row, hup_row, hup_row, c438]
        rfl
      have xB : hup (hup (hup (hup (hup c4 38 7 k) 38 8 61) 38 9 v) 38 2 1) 38 3 k 0 18 = lcg (lcg y) := by rw [hup_off (by decide), hup_off (by decide), hup_off (by decide), hup_off (by decide), hup_off (by decide)]; exact c4x
      have hb166 : fX11_drawLine_b166 c3 0 (g 194 (4 + t)) (dknd act (g 194 149)) = if q = 2 then some (hup (hup (hup (hup (hup (hup (hup c4 38 7 k) 38 8 61) 38 9 v) 38 2 1) 38 3 k) 0 18 (lcg (lcg (lcg y)))) 38 4 u) else some (hup (hup (hup (hup (hup (hup c4 38 7 k) 38 8 61) 38 9 v) 38 2 1) 38 3 k) 38 4 (-1)) := by
        unfold fX11_drawLine_b166
        rw [drawC x3 hw.1, hk]
        simp only [Option.bind_some]
        rw [drawC (x := lcg y) hup_at (by decide), hv]
        simp only [Option.bind_some]
        rw [ly_0_6 A1, hc4, hadd]
        simp only [Option.bind_some]
        rw [ly_0_6 B4, setPart_ok B4 (by decide) (by decide) (by decide) (by decide)]
        simp only [Option.bind_some]
        rw [show (19 * 0 + 3 : Int) = 3 by decide]
        unfold fX11_drawLine_b224
        rw [ly_0_6 B5]
        by_cases z : q = 2
        · rw [if_pos (kd145.mpr z), if_pos z, drawC xB (by decide), hu]
          simp only [Option.bind_some]
          rw [setPart_ok (B5.upF (by decide)) (by decide) (by decide) (by decide) (by decide)]
          rfl
        · rw [if_neg (fun w => z (kd145.mp w)), if_neg z, setPart_ok B5 (by decide) (by decide) (by decide) (by decide)]
          rfl
      rw [hb166] at hcl
      generalize hup (hup (hup (hup (hup c4 38 7 k) 38 8 61) 38 9 v) 38 2 1) 38 3 k = c5 at hcl B5 fB rB xB
      have F5 : Fr dlC c c5 := ((F2.tr F3).tr f4).tr fB
      -- the model
      have hb39 : ∀ g6, hup (hup (hup (hup g2 197 1 t) 197 2 0) 197 7 0) 197 0 q = g6 → fX12_drawsLine_b39 (hup (hup (hup g2 197 1 t) 197 2 0) 197 7 0) 192 act t q 0 197 = (aget g6 (g6 192 6) (w32 (4 + t))).bind fun v101 => (fX12_draw g6 192 v101).bind fun q102 => (aput q102.2 (q102.2 192 9) 7 1).bind fun h113 => (aput h113 (h113 192 9) 8 q102.1).bind fun h121 => (aput h121 (h121 192 9) 9 61).bind fun h130 => (fX12_draw h130 192 4).bind fun q139 => (aput q139.2 (h130 192 9) 10 q139.1).bind fun h142 => if act = 3 then some h142 else (aput h142 (h142 192 9) 2 1).bind fun h155 => (aput h155 (h155 192 9) 3 q102.1).bind fun h162 => (fX12_draw h162 192 4).bind fun q170 => (aput q170.2 (h162 192 9) 4 q170.1).bind fun h173 => some h173 := fun g6 h6 => by
        unfold fX12_drawsLine_b39
        rw [aput_in (by decide) (by rw [ll_197 P3]; decide), h6]
        simp only [Option.bind_some]
        rw [if_neg q3]
      have r7 : ∀ b, hup (hup (hup (hup g2 197 1 t) 197 2 0) 197 7 0) 197 0 q 197 b = if b = 0 then q else if b = 7 then 0 else if b = 2 then 0 else if b = 1 then t else g2 197 b := fun b => by
        rw [hup_row, hup_row, hup_row, hup_row]
        rfl
      have o7 : ∀ a, a ≠ 197 → hup (hup (hup (hup g2 197 1 t) 197 2 0) 197 7 0) 197 0 q a = g2 a := fun a ha => by rw [hup_off ha, hup_off ha, hup_off ha, hup_off ha]
      have f7 := fP q
      have L7 := P4 q
      rw [hb39 _ rfl] at hdl
      generalize hup (hup (hup (hup g2 197 1 t) 197 2 0) 197 7 0) 197 0 q = g7 at hdl r7 o7 f7 L7
      have g7s : g7 194 = g 194 := by rw [o7 194 (by decide)]; exact r194
      have D1 : Lay (hup g7 192 51 (lcg y)) := L7.upF (by decide)
      have D2 : Lay (hup (hup g7 192 51 (lcg y)) 197 7 1) := D1.upA (by decide) (by decide)
      have D3 : Lay (hup (hup (hup g7 192 51 (lcg y)) 197 7 1) 197 8 k) := D2.upA (by decide) (by decide)
      have D4 : Lay (hup (hup (hup (hup g7 192 51 (lcg y)) 197 7 1) 197 8 k) 197 9 61) := D3.upA (by decide) (by decide)
      have D5 : Lay (hup (hup (hup (hup (hup g7 192 51 (lcg y)) 197 7 1) 197 8 k) 197 9 61) 192 51 (lcg (lcg y))) := D4.upF (by decide)
      have D6 : Lay (hup (hup (hup (hup (hup (hup g7 192 51 (lcg y)) 197 7 1) 197 8 k) 197 9 61) 192 51 (lcg (lcg y))) 197 10 v) := D5.upA (by decide) (by decide)
      have x6 : hup (hup (hup (hup (hup (hup g7 192 51 (lcg y)) 197 7 1) 197 8 k) 197 9 61) 192 51 (lcg (lcg y))) 197 10 v 192 51 = lcg (lcg y) := by rw [hup_off (by decide), hup_at]
      have r6 : ∀ b, hup (hup (hup (hup (hup (hup g7 192 51 (lcg y)) 197 7 1) 197 8 k) 197 9 61) 192 51 (lcg (lcg y))) 197 10 v 197 b = if b = 10 then v else if b = 9 then 61 else if b = 8 then k else if b = 7 then 1 else g7 197 b := fun b => by
        rw [hup_row, hup_off (a := 197) (by decide), hup_row, hup_row, hup_row, hup_off (a := 197) (by decide)]
        rfl
      have f6 : Fr dlM g7 (hup (hup (hup (hup (hup (hup g7 192 51 (lcg y)) 197 7 1) 197 8 k) 197 9 61) 192 51 (lcg (lcg y))) 197 10 v) := (((((Fr.up (by decide)).tr (Fr.up (by decide))).tr (Fr.up (by decide))).tr (Fr.up (by decide))).tr (Fr.up (by decide))).tr (Fr.up (by decide))
      rw [w32_id (x := 4 + t) (by omega) (by omega), sgk L7 (by omega) (by omega), g7s] at hdl
      simp only [Option.bind_some] at hdl
      rw [drawM (x := y) (by rw [o7 192 (by decide)]; exact x2g) hw.1, hk] at hdl
      simp only [Option.bind_some] at hdl
      rw [put197 D1 (by decide) (by decide)] at hdl
      simp only [Option.bind_some] at hdl
      rw [put197 D2 (by decide) (by decide)] at hdl
      simp only [Option.bind_some] at hdl
      rw [put197 D3 (by decide) (by decide)] at hdl
      simp only [Option.bind_some] at hdl
      rw [drawM (x := lcg y) (by rw [hup_off (by decide), hup_off (by decide), hup_off (by decide), hup_at]) (by decide), hv] at hdl
      simp only [Option.bind_some] at hdl
      rw [ly_192_9 D4, aput_in (by decide) (by rw [ll_197 D5]; decide)] at hdl
      simp only [Option.bind_some] at hdl
      generalize hup (hup (hup (hup (hup (hup g7 192 51 (lcg y)) 197 7 1) 197 8 k) 197 9 61) 192 51 (lcg (lcg y))) 197 10 v = g6 at hdl D6 x6 r6 f6
      have F6 : Fr dlM g g6 := f7.tr f6
      rcases hq with rfl | rfl
      · rw [if_neg (by decide)] at hcl
        rw [if_pos (by omega)] at hdl
        have rC : ∀ b, b ≠ 4 → hup c5 38 4 (-1) 38 b = c5 38 b := fun b hb => hup_ne (by omega)
        have C0 : hup c5 38 4 (-1) 38 0 = 142 := by rw [rC 0 (by decide), rB, if_neg (by decide), if_neg (by decide), if_neg (by decide), if_neg (by decide), if_neg (by decide), e30, kd, if_pos rfl]
        obtain ⟨z1, z2⟩ := delEnd (S := g 194) (c := hup c5 38 4 (-1)) (g := g6) (k := k) (v := v) (v2 := 0) (q := 1) ⟨t0, t1⟩ ⟨k0, k1⟩ (by omega) (by omega) (Or.inl rfl) (by rw [C0, if_pos rfl]) (by rw [rC 1 (by decide), rB, if_neg (by decide), if_neg (by decide), if_neg (by decide), if_neg (by decide), if_neg (by decide), e31]) (by rw [rC 2 (by decide), rB, if_neg (by decide), if_pos rfl]) (by rw [rC 7 (by decide), rB, if_neg (by decide), if_neg (by decide), if_neg (by decide), if_neg (by decide), if_pos rfl]) (by rw [rC 8 (by decide), rB, if_neg (by decide), if_neg (by decide), if_neg (by decide), if_pos rfl]) (by rw [rC 9 (by decide), rB, if_neg (by decide), if_neg (by decide), if_pos rfl]) (fun z => by omega) (by rw [r6, if_neg (by decide), if_neg (by decide), if_neg (by decide), if_neg (by decide), r7, if_pos rfl]) (by rw [r6, if_neg (by decide), if_neg (by decide), if_neg (by decide), if_neg (by decide), r7, if_neg (by decide), if_neg (by decide), if_neg (by decide), if_pos rfl]) (by rw [r6, if_neg (by decide), if_neg (by decide), if_neg (by decide), if_pos rfl]) (by rw [r6, if_neg (by decide), if_neg (by decide), if_pos rfl]) (by rw [r6, if_neg (by decide), if_pos rfl]) (by rw [r6, if_pos rfl]) (by rw [r6, if_neg (by decide), if_neg (by decide), if_neg (by decide), if_neg (by decide), r7, if_neg (by decide), if_neg (by decide), if_pos rfl, if_pos rfl]) (fun z => by omega)
        exact ⟨hup c5 38 4 (-1), t, g2, hcl, B5.upA (by decide) (by decide), F5.tr (Fr.up (by decide)), by rw [C0, kd, if_pos rfl], d1, d2, G2, H2, r194, Or.inr ⟨q5, g6, hdl, D6, F6, by rw [hup_off (by decide), xB, x6], z1, z2⟩⟩
      · rw [if_pos rfl] at hcl
        have E1 : Lay (hup g6 197 2 1) := D6.upA (by decide) (by decide)
        have E2 : Lay (hup (hup g6 197 2 1) 197 3 k) := E1.upA (by decide) (by decide)
        have E3 : Lay (hup (hup (hup g6 197 2 1) 197 3 k) 192 51 (lcg (lcg (lcg y)))) := E2.upF (by decide)
        rw [if_neg (by omega), put197 D6 (by decide) (by decide)] at hdl
        simp only [Option.bind_some] at hdl
        rw [put197 E1 (by decide) (by decide)] at hdl
        simp only [Option.bind_some] at hdl
        rw [drawM (x := lcg (lcg y)) (by rw [hup_off (by decide), hup_off (by decide)]; exact x6) (by decide), hu] at hdl
        simp only [Option.bind_some] at hdl
        rw [ly_192_9 E2, aput_in (by decide) (by rw [ll_197 E3]; decide)] at hdl
        simp only [Option.bind_some] at hdl
        have rC : ∀ b, b ≠ 4 → hup (hup c5 0 18 (lcg (lcg (lcg y)))) 38 4 u 38 b = c5 38 b := fun b hb => by rw [hup_ne (by omega), hup_off (by decide)]
        have C0 : hup (hup c5 0 18 (lcg (lcg (lcg y)))) 38 4 u 38 0 = 145 := by rw [rC 0 (by decide), rB, if_neg (by decide), if_neg (by decide), if_neg (by decide), if_neg (by decide), if_neg (by decide), e30, kd, if_neg (by decide)]
        have rD : ∀ b, hup (hup (hup (hup g6 197 2 1) 197 3 k) 192 51 (lcg (lcg (lcg y)))) 197 4 u 197 b = if b = 4 then u else if b = 3 then k else if b = 2 then 1 else g6 197 b := fun b => by
          rw [hup_row, hup_off (a := 197) (by decide), hup_row, hup_row]
          rfl
        obtain ⟨z1, z2⟩ := delEnd (S := g 194) (c := hup (hup c5 0 18 (lcg (lcg (lcg y)))) 38 4 u) (g := hup (hup (hup (hup g6 197 2 1) 197 3 k) 192 51 (lcg (lcg (lcg y)))) 197 4 u) (k := k) (v := v) (v2 := u) (q := 2) ⟨t0, t1⟩ ⟨k0, k1⟩ (by omega) (by omega) (Or.inr rfl) (by rw [C0, if_neg (by decide)]) (by rw [rC 1 (by decide), rB, if_neg (by decide), if_neg (by decide), if_neg (by decide), if_neg (by decide), if_neg (by decide), e31]) (by rw [rC 2 (by decide), rB, if_neg (by decide), if_pos rfl]) (by rw [rC 7 (by decide), rB, if_neg (by decide), if_neg (by decide), if_neg (by decide), if_neg (by decide), if_pos rfl]) (by rw [rC 8 (by decide), rB, if_neg (by decide), if_neg (by decide), if_neg (by decide), if_pos rfl]) (by rw [rC 9 (by decide), rB, if_neg (by decide), if_neg (by decide), if_pos rfl]) (fun z => ⟨by rw [rC 3 (by decide), rB, if_pos rfl], hup_at, by rw [rC 5 (by decide), rB, if_neg (by decide), if_neg (by decide), if_neg (by decide), if_neg (by decide), if_neg (by decide)]; exact e3k 5 (by decide) (by decide)⟩) (by rw [rD, if_neg (by decide), if_neg (by decide), if_neg (by decide), r6, if_neg (by decide), if_neg (by decide), if_neg (by decide), if_neg (by decide), r7, if_pos rfl]) (by rw [rD, if_neg (by decide), if_neg (by decide), if_neg (by decide), r6, if_neg (by decide), if_neg (by decide), if_neg (by decide), if_neg (by decide), r7, if_neg (by decide), if_neg (by decide), if_neg (by decide), if_pos rfl]) (by rw [rD, if_neg (by decide), if_neg (by decide), if_neg (by decide), r6, if_neg (by decide), if_neg (by decide), if_neg (by decide), if_pos rfl]) (by rw [rD, if_neg (by decide), if_neg (by decide), if_neg (by decide), r6, if_neg (by decide), if_neg (by decide), if_pos rfl]) (by rw [rD, if_neg (by decide), if_neg (by decide), if_neg (by decide), r6, if_neg (by decide), if_pos rfl]) (by rw [rD, if_neg (by decide), if_neg (by decide), if_neg (by decide), r6, if_pos rfl]) (by rw [rD, if_neg (by decide), if_neg (by decide), if_pos rfl, if_neg (by decide)]) (fun z => ⟨by rw [rD, if_neg (by decide), if_pos rfl], by rw [rD, if_pos rfl]⟩)
        exact ⟨_, t, g2, hcl, (B5.upF (by decide)).upA (by decide) (by decide), (F5.tr (Fr.up (by decide))).tr (Fr.up (by decide)), by rw [C0, kd, if_neg (by decide)], d1, d2, G2, H2, r194, Or.inr ⟨q5, _, hdl, E3.upA (by decide) (by decide), (((F6.tr (Fr.up (by decide))).tr (Fr.up (by decide))).tr (Fr.up (by decide))).tr (Fr.up (by decide)), by rw [hup_off (by decide), hup_at, hup_off (by decide), hup_at], z1, z2⟩⟩
  · have kd : dknd act (g 194 149) = if g 194 149 = 0 then 146 else 147 := by
      unfold dknd
      rw [if_neg (by omega), if_neg (by omega), if_neg (by omega)]
    have k1 : ¬ dknd act (g 194 149) = 141 := by rw [kd]; split <;> decide
    have k2 : ¬ (dknd act (g 194 149) = 142 ∨ dknd act (g 194 149) = 145) := by rw [kd]; split <;> decide
    rw [if_neg k1, if_neg k2] at hcl
    exact ⟨c3, t, g2, hcl, L3, F2.tr F3, e30, d1, d2, G2, H2, r194, Or.inl ⟨q5, by rw [x3, x2g]⟩⟩
