/-! READING A SCHEMA: tables -/
section SIM
variable {B : Int → Int} {L M n : Int} {K A V E : Int → Int}
theorem tbDraft {c g z G w : hH} {q wd : Int} (hD : DI c g) (hq : g 195 0 = q) (hq4 : q < 4) (hLz : Lay z) (hw1 : 1 ≤ wd ∧ wd ≤ 4)
    (w195 : ∀ i, w 195 i = if i = 0 then q + 1 else if i = 4 + q then wd else g 195 i) (w198 : w 198 = G 198) (z0 : z 25 0 = q + 1) (z25 : ∀ i, i ≠ 0 → z 25 i = c 25 i) (z26 : ∀ i, i ≠ q → z 26 i = c 26 i) (nq : WR (z 26 q) (w 198 (20 + q))) (z27 : ∀ i, z 27 i = if i = q then wd else c 27 i) (z28 : ∀ i, i < 4 * q → z 28 i = c 28 i) (nk : ∀ k, 0 ≤ k → k < wd → WR (z 28 (4 * q + k)) (G 198 (24 + 4 * q + k))) (o198 : ∀ i, i ≠ 20 + q → i < 24 + 4 * q → G 198 i = g 198 i) (zr : ∀ a, (29 ≤ a ∧ a < 34) → a ≠ 99 → z a = c a) : DI z w := by
  have hs := hD.2.2.1
  have q0 : 0 ≤ q := by have := hs.1; omega
  have w0 : w 195 0 = q + 1 := by rw [w195, if_pos rfl]
  have qo : ∀ i, (i ≠ 0 ∧ i ≠ 4 + q) → w 195 i = g 195 i := fun i hi => by rw [w195, if_neg hi.1, if_neg hi.2]
  obtain ⟨dA, ⟨⟨r0, r1, r2, r3⟩, rw', rd, rn, rk, rf, rc⟩, -, ⟨nm1, nm2⟩, -⟩ := hD
  have hs0 := hs.1
  have hs1 := hs.2.1
  have hs2 := hs.2.2.1
  have hs3 := hs.2.2.2.1
  refine ⟨schAt_25 hLz, ⟨⟨?_, ?_, ?_, ?_⟩, fun t t0 t1 => ?_, fun i i0 i1 => ?_, fun i i0 i1 => ?_, fun k k0 k1 => ?_, fun f f0 f1 => ?_, fun x x0 x1 => ?_⟩, ?_, ⟨fun t t0 t1 => ?_, fun t x t0 t1 x0 x1 => ?_⟩, Or.inr rfl⟩
  · rw [z0, w0]
  · rw [z25 1 (by decide), qo 1 (by omega)]; exact r1
  · rw [z25 2 (by decide), qo 2 (by omega)]; exact r2
  · rw [z25 3 (by decide), qo 3 (by omega)]; exact r3
  · rw [w0] at t1
    rw [show (25 : Int) + 2 = 27 from rfl, z27, w195]
    by_cases e : t = q
    · rw [if_pos e, if_neg (by omega), if_pos (by omega)]
    · rw [if_neg e, if_neg (by omega), if_neg (by omega)]; exact rw' t t0 (by omega)
  · rw [zr _ (by decide) (by decide), qo (8 + i) (by omega)]; exact rd i i0 i1
  · rw [zr _ (by decide) (by decide), qo (24 + i) (by omega)]; exact rn i i0 i1
  · rw [qo 1 (by omega)] at k1
    rw [zr _ (by decide) (by decide), qo (40 + k) (by omega), qo (46 + k) (by omega), qo (52 + k) (by omega)]
    exact rk k k0 k1
  · rw [qo 2 (by omega)] at f1
    rw [zr _ (by decide) (by decide), qo (58 + f) (by omega), qo (76 + f) (by omega), qo (82 + f) (by omega), qo (88 + f) (by omega), qo (94 + f) (by omega), qo (100 + f) (by omega), qo (106 + f) (by omega), qo (64 + f) (by omega), qo (70 + f) (by omega)]
    exact rf f f0 f1
  · rw [qo 3 (by omega)] at x1
    rw [zr _ (by decide) (by decide), qo (112 + x) (by omega), qo (118 + x) (by omega), qo (124 + x) (by omega), qo (136 + x) (by omega), qo (130 + x) (by omega), qo (142 + x) (by omega)]
    exact rc x x0 x1
  · refine hs.ext (by rw [w0]; omega) (by rw [qo 1 (by omega)]; exact ⟨Int.le_refl _, hs.2.1.2⟩) (by rw [qo 2 (by omega)]; exact ⟨Int.le_refl _, hs.2.2.1.2⟩) (by rw [qo 3 (by omega)]; exact ⟨Int.le_refl _, hs.2.2.2.1.2⟩) (fun t t0 t1 => qo _ (by omega)) (fun t t0 t1 => by rw [w0] at t1; rw [show t = q by omega, w195, if_neg (by omega), if_pos rfl]; omega) (fun i i0 i1 => by rw [qo (8 + i) (by omega)]; exact hs.2.2.2.2.2.1 i i0 i1) (fun i i0 i1 => by rw [qo (24 + i) (by omega)]; exact hs.2.2.2.2.2.2.1 i i0 i1) (fun k k0 k1 => ⟨qo _ (by omega), qo _ (by omega), qo _ (by omega)⟩) (fun k k0 k1 => by rw [qo 1 (by omega)] at k1; omega) (fun f f0 f1 => ⟨qo _ (by omega), qo _ (by omega), qo _ (by omega), qo _ (by omega), qo _ (by omega), qo _ (by omega), qo _ (by omega), qo _ (by omega), qo _ (by omega)⟩) (fun f f0 f1 => by rw [qo 2 (by omega)] at f1; omega) (fun x x0 x1 => ⟨qo _ (by omega), qo _ (by omega), qo _ (by omega), qo _ (by omega), qo _ (by omega), qo _ (by omega)⟩) (fun x x0 x1 => by rw [qo 3 (by omega)] at x1; omega)
  · rw [w0] at t1
    by_cases e : t = q
    · rw [e]; exact nq
    · rw [show (25 : Int) + 1 = 26 from rfl, z26 t e, w198, o198 (20 + t) (by omega) (by omega)]; exact nm1 t t0 (by omega)
  · rw [w0] at t1
    rw [show (25 : Int) + 3 = 28 from rfl]
    by_cases e : t = q
    · subst e
      rw [w195, if_neg (by omega), if_pos rfl] at x1
      have := nk x x0 x1
      rw [show 20 + 4 + 4 * t + x = 24 + 4 * t + x by omega, w198]
      exact this
    · rw [qo (4 + t) (by omega)] at x1
      have hwt := hs.2.2.2.2.1 t t0 (by omega)
      rw [z28 (4 * t + x) (by omega), w198, o198 (20 + 4 + 4 * t + x) (by omega) (by omega)]
      exact nm2 t x t0 (by omega) x0 x1
theorem col_find2 {c g : hH} {p f j t W : Int} (hA : SchemaAt c p) (hM : SM B L M n K A V E j g) (hk : K j = 4) (t0 : 0 ≤ t) (t4 : t < 4) (W0 : 0 ≤ W) (W4 : W ≤ 4) (hW' : c (p + 2) t = W) (f0 : 0 ≤ f) (f4 : f + 4 ≤ 40) (n2 : ∀ k, 0 ≤ k → k < W → WR (c (p + 3) (4 * t + k)) (g 198 (f + k))) : ∃ r, fX4_colNamed c p t (V j) = some r ∧ fX12_seek g 192 f W = some r ∧ (r = -1 ∨ (0 ≤ r ∧ r < W)) := by
  have hW := (SM.tok hM).2.2.2.2.2.2.1 hk
  obtain ⟨r, r1, r2⟩ := seek_ok hM.1.1 (from_ := f) (m := W) f0 (by omega) W0
  refine ⟨r, ?_, r1, by omega⟩
  have l2 := hA.2.2.2.2.2.2.2.2.2.1
  have l3 := hA.2.2.2.2.2.2.2.2.2.2.1
  unfold fX4_colNamed fX4_colNamed_b23
  rw [if_neg (by omega), hA.2.1, if_pos (by rw [l2]; omega), aget_in t0 (by rw [l2]; omega), hW']
  simp only [Option.bind_some]
  rcases lpO_find (f := fX4_colNamed_s28 c p t (V j) W) (fun k => k) W (fun k => c (p + 3) (4 * t + k) = V j) (fun k => k) (-1) (fun k k0 k1 => by
    unfold fX4_colNamed_s28
    rw [if_pos k1, show w32 (w32 (t * 4) + k) = 4 * t + k by rw [w32_id (x := t * 4) (by omega) (by omega), w32_id (by omega) (by omega)]; omega, if_neg (by omega), hA.2.2.1, if_pos (by rw [l3]; omega), aget_in (by omega) (by rw [l3]; omega)]
    simp only [Option.bind_some]
    rw [w1 (by omega) (by omega)]
    exact ⟨fun z => by rw [if_pos (lcm0.mpr z)], fun z => by rw [if_neg (fun y => z (lcm0.mp y))]⟩) (by
    unfold fX4_colNamed_s28
    rw [if_neg (Int.lt_irrefl _)]) (i := 0) (Int.le_refl _) W0 with ⟨k, k0, k1, k2, k3, k4⟩ | ⟨k1, k2⟩
  · rw [k4]
    rcases r2 with ⟨a, b, e, f'⟩ | ⟨a, f'⟩
    · have e1 := ((n2 k k0 k1).inj hW).mp k2
      have e2 := ((n2 r a b).inj hW).mpr e
      rcases Int.lt_trichotomy k r with z | z | z
      · exact absurd e1 (f' k k0 z)
      · rw [z]
      · exact absurd e2 (k3 r a z)
    · exact absurd (((n2 k k0 k1).inj hW).mp k2) (f' k k0 k1)
  · rw [k2]
    rcases r2 with ⟨a, b, e, f'⟩ | ⟨a, f'⟩
    · exact absurd (((n2 r a b).inj hW).mpr e) (k1 r a b)
    · rw [a]
/-- in the midst of a table's line: w columns are told -/
def MT (B : Int → Int) (L M n : Int) (K A V E : Int → Int) (c g : hH) (q j0 w j : Int) (C G : hH) : Prop := SC n K A V j C ∧ SM B L M n K A V E j G ∧ Fr lcF c C ∧ Fr lmF g G ∧ C 1 8 = c 1 8 ∧ j0 + 1 ≤ j ∧ (∀ i, G 195 i = if i = 4 + q then w else g 195 i) ∧ C 25 0 = q + 1 ∧ (∀ i, i ≠ 0 → C 25 i = c 25 i) ∧ (∀ i, i ≠ q → C 26 i = c 26 i) ∧ WR (C 26 q) (G 198 (20 + q)) ∧ (∀ i, C 27 i = if i = q then w else c 27 i) ∧ (∀ i, i < 4 * q → C 28 i = c 28 i) ∧ (∀ k, 0 ≤ k → k < w → WR (C 28 (4 * q + k)) (G 198 (24 + 4 * q + k))) ∧ (∀ i, i ≠ 20 + q → i < 24 + 4 * q → G 198 i = g 198 i) ∧ ∀ a, 29 ≤ a → a < 34 → C a = c a
theorem width_c {C : hH} (hL : Lay C) {q w : Int} (q0 : 0 ≤ q) (q4 : q < 4) (e0 : C 25 0 = q + 1) (e27 : C 27 q = w) : fX4_width C 25 q = some w := by
  unfold fX4_width
  rw [if_neg (show ¬ q < 0 by omega), e0, if_pos (show q < q + 1 by omega), ly_25_5 hL, if_pos (by rw [ll_27 hL]; omega), aget_in q0 (by rw [ll_27 hL]; omega), e27]
  rfl
theorem tableCols {c g : hH} {q j0 : Int} (hC : Chain B L M n K A V E) (hD : DI c g) (hq : g 195 0 = q) (hq4 : q < 4) (x0 : hH) (x1 : hH) : ∀ (d : Nat) (w j : Int) (C G : hH), w + d = 4 → 0 ≤ w → (w = 0 → K j = 4) → MT B L M n K A V E c g q j0 w j C G → ∃ b b' c' g', lpO (fX5_readTable_s105 x0 24 q) (C, w) = some (b, c') ∧ lpO (fX12_readTable_s77 x1 192 q) G = some (b', g') ∧ LO B L M n K A V E j0 c g b b' c' g' := by
  have hs := hD.2.2.1
  have q0 : 0 ≤ q := by have := hs.1; omega
  have main : ∀ (w j : Int) (C G : hH), 0 ≤ w → w ≤ 4 → (w = 0 → K j = 4) → MT B L M n K A V E c g q j0 w j C G →
      (∃ b b' c' g', fX5_readTable_s105 x0 24 q (C, w) = some (.inr (b, c')) ∧ fX12_readTable_s77 x1 192 q G = some (.inr (b', g')) ∧ LO B L M n K A V E j0 c g b b' c' g') ∨
      (w < 4 ∧ ∃ C' G' j', fX5_readTable_s105 x0 24 q (C, w) = some (.inl (C', w + 1)) ∧ fX12_readTable_s77 x1 192 q G = some (.inl G') ∧ MT B L M n K A V E c g q j0 (w + 1) j' C' G') := fun w j C G w0 w4 hk hT => by
    obtain ⟨hc, hg, fc, fg, e8, jj, g195, c0, c25, c26, nq, c27, c28, nk, g198, cr⟩ := hT
    have gw : G 195 (4 + q) = w := by rw [g195, if_pos rfl]
    have cw : C 27 q = w := by rw [c27, if_pos rfl]
    have hwd := width_c hc.1 q0 hq4 c0 cw
    have l24 : ∀ x : hH, Lay x → x 24 0 = 1 ∧ x 24 1 = 25 := fun x hx => ⟨ly_24_0 hx, ly_24_1 hx⟩
    obtain ⟨w1', w2'⟩ := colFrom q0 hq4
    unfold fX5_readTable_s105 fX12_readTable_s77 fX12_readTable_b97
    dsimp only
    rw [if_neg (show ¬ 4 < w by omega), (l24 _ hc.1).1, (l24 _ hc.1).2, hc.k, hc.v, w2', w1', row195 hg.1.1 (by omega) (by omega), gw, isNameM hg, isSignM (s := 59) hg (by unfold sgn; decide)]
    simp only [Option.bind_some]
    by_cases k4 : K j = 4
    · rw [if_pos k4, if_pos k4, if_neg (show ¬ K j = 59 by omega), if_pos (show (0 : Int) = 0 from rfl), if_neg (show ¬ (1 : Int) = 0 by decide)]
      obtain ⟨r, r1, r2, r3⟩ := col_find2 (p := 25) (f := 20 + 4 + 4 * q) (schAt_25 hc.1) hg k4 q0 hq4 w0 w4 cw (by omega) (by omega) (fun k k0 k1 => by
        rw [show 20 + 4 + 4 * q + k = 24 + 4 * q + k by omega]; exact nk k k0 k1)
      rw [r1, r2]
      simp only [Option.bind_some]
      rw [hwd]
      simp only [Option.bind_some]
      have hite : ∀ {X : Option (hH ⊕ Int × hH)}, (if w = 0 then X else X) = X := fun {X} => by split <;> rfl
      rw [hite]
      by_cases hr : r = -1
      · rw [if_pos hr, if_pos (show r < 0 by omega)]
        by_cases z4 : w = 4
        · obtain ⟨C', G', f1, f2, ⟨k, a, f3, f4, f5⟩, f6, f7⟩ := fail2 (k := 4) hc hg (by decide)
          rw [if_neg (show ¬ w < 4 by omega), if_pos z4, f1, f2]
          exact Or.inl ⟨0, 0, C', G', rfl, rfl, fc.tr (f6.mono (fun a b z => tk_lc z)), fg.tr (f7.mono (fun a b z => tx_lm z)), Or.inl ⟨rfl, rfl, k, a, f3, f4, f5⟩⟩
        · rw [if_pos (show w < 4 by omega), if_neg z4]
          -- one more column
          have S1 := hc.up25 (a := 28) (b := 4 * q + w) (v := V j) (Or.inr (by omega))
          have S2 := S1.up25 (a := 27) (b := q) (v := w + 1) (Or.inr (by omega))
          have ha : fX4_addCol C 25 q (V j) = some (hup (hup C 28 (4 * q + w) (V j)) 27 q (w + 1)) := by
            unfold fX4_addCol
            rw [hwd]
            simp only [Option.bind_some]
            rw [show w32 (w32 (q * 4) + w) = 4 * q + w by rw [w32_id (x := q * 4) (by omega) (by omega), w32_id (by omega) (by omega)]; omega, if_neg (show ¬ 4 * q + w < 0 by omega), ly_25_6 hc.1, if_pos (by rw [ll_28 hc.1]; omega), if_pos (show w < 4 by omega), aput_in (by omega) (by rw [ll_28 hc.1]; omega)]
            simp only [Option.bind_some]
            rw [ly_25_5 S1.1, put_in q0 (by rw [ll_27 S1.1]; omega), w1 (by omega) (by omega)]
            rfl
          obtain ⟨c1, s1, s2, s3, s4, -⟩ := stepC hC S2
          rw [ha]
          simp only [Option.bind_some]
          rw [(l24 _ S2.1).1, s1, w1 (i := w) (by omega) (by omega)]
          simp only [Option.bind_some]
          -- the model
          have hW := (SM.tok hg).2.2.2.2.2.2.1 k4
          have U1 : SM B L M n K A V E j (hup G 198 (20 + 4 + 4 * q + w) (G 192 18)) := hg.up198 (by omega)
          have p1 : aput G (G 192 10) (20 + 4 + 4 * q + w) (G 192 18) = some (hup G 198 (20 + 4 + 4 * q + w) (G 192 18)) := by
            rw [ly_192_10 hg.1.1]; exact aput_in (by omega) (by rw [ll_198 hg.1.1]; omega)
          rw [w32_id (x := 20 + 4 + 4 * q + w) (by omega) (by omega), p1]
          simp only [Option.bind_some]
          rw [row195 U1.1.1 (by omega) (by omega), hup_off (by decide), gw]
          simp only [Option.bind_some]
          rw [w1 (i := w) (by omega) (by omega), put195 U1.1.1 (by omega) (by omega)]
          simp only [Option.bind_some]
          have U2 := U1.up195 (b := 4 + q) (v := w + 1) (by omega)
          obtain ⟨g1, t1, t2, t3⟩ := nextM hC U2
          rw [t1]
          refine Or.inr ⟨by omega, c1, g1, nx n j, rfl, rfl, s2, t2, fc.tr ((Fr.up (by unfold lcF; simp; omega)).tr ((Fr.up (by unfold lcF; simp; omega)).tr (s3.mono (fun a b z => tk_lc z)))), fg.tr ((Fr.up (by unfold lmF; simp; omega)).tr ((Fr.up (by unfold lmF; simp; omega)).tr (t3.mono (fun a b z => tx_lm (nx_tx z))))), ?_, by have := @nx_le n j; omega, fun i => ?_, ?_, fun i hi => ?_, fun i hi => ?_, ?_, fun i => ?_, fun i hi => ?_, fun k k0 k1 => ?_, fun i hi hi2 => ?_, fun a a0 a1 => ?_⟩
          · rw [s4, hup_off (by decide), hup_off (by decide)]; exact e8
          · rw [txF_row (t3.mono (fun a b z => nx_tx z)) (by decide), hup_row, hup_off (by decide)]
            unfold up1
            rw [g195]
            by_cases e : i = 4 + q
            · rw [if_pos e, if_pos e]
            · rw [if_neg e, if_neg e, if_neg e]
          · rw [tkF_row s3 (by decide), hup_off (by decide), hup_off (by decide)]; exact c0
          · rw [tkF_row s3 (by decide), hup_off (by decide), hup_off (by decide)]; exact c25 i hi
          · rw [tkF_row s3 (by decide), hup_off (by decide), hup_off (by decide)]; exact c26 i hi
          · rw [tkF_row s3 (by decide), hup_off (by decide), hup_off (by decide), txF_row (t3.mono (fun a b z => nx_tx z)) (by decide), hup_off (by decide), hup_ne (by omega)]; exact nq
          · rw [tkF_row s3 (by decide), hup_row, hup_off (by decide)]
            unfold up1
            rw [c27]
            by_cases e : i = q
            · rw [if_pos e, if_pos e]
            · rw [if_neg e, if_neg e, if_neg e]
          · rw [tkF_row s3 (by decide), hup_off (by decide), hup_ne (by omega)]; exact c28 i hi
          · rw [tkF_row s3 (by decide), hup_off (a := 28) (by decide), txF_row (t3.mono (fun a b z => nx_tx z)) (by decide), hup_off (a := 198) (by decide)]
            by_cases e : k = w
            · rw [e, hup_at, show 24 + 4 * q + w = 20 + 4 + 4 * q + w by omega, hup_at]; exact hW
            · rw [hup_ne (by omega), hup_ne (by omega)]; exact nk k k0 (by omega)
          · rw [txF_row (t3.mono (fun a b z => nx_tx z)) (by decide), hup_off (by decide), hup_ne (by omega)]; exact g198 i hi hi2
          · rw [tkF_row s3 (by omega), hup_off (by omega), hup_off (by omega)]; exact cr a a0 a1
      · obtain ⟨C', G', f1, f2, ⟨k, a, f3, f4, f5⟩, f6, f7⟩ := fail2 (k := 3) hc hg (by decide)
        rw [if_neg hr, if_neg (show ¬ r < 0 by omega), f1, f2]
        exact Or.inl ⟨0, 0, C', G', rfl, rfl, fc.tr (f6.mono (fun a b z => tk_lc z)), fg.tr (f7.mono (fun a b z => tx_lm z)), Or.inl ⟨rfl, rfl, k, a, f3, f4, f5⟩⟩
    · have hw0 : ¬ w = 0 := fun z => k4 (hk z)
      rw [if_neg k4, if_neg k4, if_neg hw0]
      by_cases k59 : K j = 59
      · rw [if_pos k59, if_neg (show ¬ (1 : Int) = 0 by decide), row195 hg.1.1 (by decide) (by decide), g195, if_neg (show ¬ (0 : Int) = 4 + q by omega), hq]
        simp only [Option.bind_some]
        rw [put195 hg.1.1 (by decide) (by decide), w1 (i := q) (by omega) (by omega)]
        simp only [Option.bind_some]
        have U := hg.up195 (b := 0) (v := q + 1) (by decide)
        refine Or.inl ⟨1, 1, C, _, rfl, rfl, fc, fg.tr (Fr.up (by decide)), Or.inr ⟨rfl, j, hc, jj, e8, Or.inl ⟨rfl, U, ?_⟩⟩⟩
        refine tbDraft (G := G) (wd := w) hD hq hq4 hc.1 ⟨by omega, w4⟩ (fun i => ?_) (hup_off (by decide)) c0 c25 c26 (by rw [hup_off (by decide)]; exact nq) c27 c28 nk g198 (fun a ha _ => cr a ha.1 ha.2)
        rw [hup_row]
        unfold up1
        rw [g195]
      · obtain ⟨G', f1, f2, f3⟩ := badM (k := 1) hg
        rw [if_neg k59, if_pos (show (0 : Int) = 0 from rfl), if_pos (show (0 : Int) = 0 from rfl), f1]
        exact Or.inl ⟨1, 0, C, G', rfl, rfl, fc, fg.tr (f3.mono (fun a b z => tx_lm z)), Or.inr ⟨rfl, j, hc, jj, e8, Or.inr ⟨rfl, f2, k59⟩⟩⟩
  intro d
  induction d with
  | zero =>
    intro w j C G hw w0 hk hT
    rcases main w j C G w0 (by omega) hk hT with ⟨b, b', c', g', h1, h2, h3⟩ | ⟨z, -⟩
    · exact ⟨b, b', c', g', lpO_inr h1, lpO_inr h2, h3⟩
    · omega
  | succ d ih =>
    intro w j C G hw w0 hk hT
    rcases main w j C G w0 (by omega) hk hT with ⟨b, b', c', g', h1, h2, h3⟩ | ⟨z, C', G', j', h1, h2, h3⟩
    · exact ⟨b, b', c', g', lpO_inr h1, lpO_inr h2, h3⟩
    · obtain ⟨b, b', c', g', y1, y2, y3⟩ := ih (w + 1) j' C' G' (by omega) (by omega) (fun z => by omega) h3
      exact ⟨b, b', c', g', by rw [lpO_inl h1]; exact y1, by rw [lpO_inl h2]; exact y2, y3⟩
theorem readTable2 {c g : hH} {j : Int} (hC : Chain B L M n K A V E) (hc : SC n K A V j c) (hg : SM B L M n K A V E j g) (hD : DI c g) (hk : K j = 128) (h4 : g 195 0 < 4) : ∃ b b' c' g', fX5_readTable c 24 = some (b, c') ∧ fX12_readTable g 192 = some (b', g') ∧ LO B L M n K A V E j c g b b' c' g' := by
  have hs := hD.2.2.1
  have q0 := hs.1.1
  have n1 := nx_s hC hc.2.2.2.2 (by omega) (by omega)
  obtain ⟨c1, k1, k2, k3, k4, -⟩ := stepC hC hc
  obtain ⟨g1, m1, m2, m3⟩ := nextM hC hg
  have fg1 : Fr txF g g1 := m3.mono (fun a b z => nx_tx z)
  have e195 : g1 195 = g 195 := txF_row fg1 (by decide)
  have hD1 : DI c1 g1 := hD.sc (k3.mono (fun a b z => tk_sc z)) (fg1.mono (fun a b z => tx_sm z))
  unfold fX5_readTable fX12_readTable
  rw [row195 hg.1.1 (by decide) (by decide), m1, ly_24_0 hc.1, k1]
  simp only [Option.bind_some]
  have c10 : c1 25 0 = g 195 0 := by rw [tkF_row k3 (by decide)]; exact hD.2.1.1.1
  rw [ly_24_0 k2.1, ly_24_1 k2.1, k2.k, k2.v, isNameM m2, if_neg (show ¬ g 195 0 = 4 by omega), c10]
  simp only [Option.bind_some]
  generalize hq : g 195 0 = q at *
  by_cases z4 : K (nx n j) = 4
  rotate_left
  · obtain ⟨C', G', f1, f2, ⟨k, a, f3, f4, f5⟩, f6, f7⟩ := fail2 (k := 1) k2 m2 (by decide)
    rw [if_neg z4, if_neg z4, if_pos (show (0 : Int) = 0 from rfl), f1, f2]
    exact ⟨0, 0, C', G', rfl, rfl, (k3.tr f6).mono (fun a b z => tk_lc z), (fg1.tr f7).mono (fun a b z => tx_lm z), Or.inl ⟨rfl, rfl, k, a, f3, f4, f5⟩⟩
  obtain ⟨r, r1, r2, r3⟩ := table_find hD1 m2 z4
  rw [e195, hq] at r2 r3
  rw [if_pos z4, if_pos z4, if_neg (show ¬ (1 : Int) = 0 by decide), r1, r2]
  simp only [Option.bind_some]
  by_cases hr : r = -1
  rotate_left
  · obtain ⟨C', G', f1, f2, ⟨k, a, f3, f4, f5⟩, f6, f7⟩ := fail2 (k := 3) k2 m2 (by decide)
    rw [if_neg hr, if_neg (show ¬ r < 0 by omega), f1, f2]
    exact ⟨0, 0, C', G', rfl, rfl, (k3.tr f6).mono (fun a b z => tk_lc z), (fg1.tr f7).mono (fun a b z => tx_lm z), Or.inl ⟨rfl, rfl, k, a, f3, f4, f5⟩⟩
  rw [if_pos hr, if_pos (show r < 0 by omega)]
  -- the class lays the table down
  have S1 := k2.up25 (a := 26) (b := q) (v := V (nx n j)) (Or.inr (by omega))
  have S2 := S1.up25 (a := 27) (b := q) (v := 0) (Or.inr (by omega))
  have S3 := S2.up25 (a := 25) (b := 0) (v := q + 1) (Or.inl (by omega))
  have ha : fX4_addTable c1 25 (V (nx n j)) = some (hup (hup (hup c1 26 q (V (nx n j))) 27 q 0) 25 0 (q + 1)) := by
    unfold fX4_addTable
    rw [ly_25_4 k2.1, c10, if_neg (show ¬ q < 0 by omega), if_pos (by rw [ll_26 k2.1]; omega), aput_in q0 (by rw [ll_26 k2.1]; omega)]
    simp only [Option.bind_some]
    rw [ly_25_5 S1.1, hup_off (a := 25) (by decide), c10, put_in q0 (by rw [ll_27 S1.1]; omega)]
    simp only [Option.bind_some, pput]
    rw [hup_off (a := 25) (by decide), hup_off (a := 25) (by decide), c10, w1 (i := q) (by omega) (by omega)]
  rw [ha]
  simp only [Option.bind_some]
  obtain ⟨c4, s1, s2, s3, s4, -⟩ := stepC hC S3
  rw [ly_24_0 S3.1, s1]
  simp only [Option.bind_some]
  rw [ly_24_0 s2.1, s2.k]
  -- the model
  have hW := (SM.tok m2).2.2.2.2.2.2.1 z4
  have U1 : SM B L M n K A V E (nx n j) (hup g1 198 (20 + q) (g1 192 18)) := m2.up198 (by omega)
  have p1 : aput g1 (g1 192 10) (20 + q) (g1 192 18) = some (hup g1 198 (20 + q) (g1 192 18)) := by
    rw [ly_192_10 m2.1.1]; exact aput_in (by omega) (by rw [ll_198 m2.1.1]; omega)
  rw [w32_id (x := 20 + q) (by omega) (by omega), p1, w32_id (x := 4 + q) (by omega) (by omega)]
  simp only [Option.bind_some]
  obtain ⟨g4, t1, t2, t3⟩ := nextM hC U1
  rw [t1]
  simp only [Option.bind_some]
  rw [put195 t2.1.1 (by omega) (by omega)]
  simp only [Option.bind_some]
  have U2 := t2.up195 (b := 4 + q) (v := 0) (by omega)
  have fcc : Fr lcF c c4 := (k3.mono (fun a b z => tk_lc z)).tr ((Fr.up (by unfold lcF; simp; omega)).tr ((Fr.up (by unfold lcF; simp; omega)).tr ((Fr.up (by decide)).tr (s3.mono (fun a b z => tk_lc z)))))
  have fgg : Fr lmF g (hup g4 195 (4 + q) 0) := (fg1.mono (fun a b z => tx_lm z)).tr ((Fr.up (by unfold lmF; simp; omega)).tr ((t3.mono (fun a b z => tx_lm (nx_tx z))).tr (Fr.up (by unfold lmF; simp; omega))))
  have jle := @nx_le n (nx n j)
  have g4r : ∀ a, a ≠ 192 → g4 a = hup g1 198 (20 + q) (g1 192 18) a := fun a ha => txF_row (t3.mono (fun a b z => nx_tx z)) ha
  have g1r : ∀ a, a ≠ 192 → g1 a = g a := fun a ha => txF_row fg1 ha
  have c1r : ∀ a, a ≠ 1 → c1 a = c a := fun a ha => tkF_row k3 ha
  have hT : MT B L M n K A V E c g q j 0 (nx n (nx n j)) c4 (hup g4 195 (4 + q) 0) := by
    refine ⟨s2, U2, fcc, fgg, ?_, by omega, fun i => ?_, ?_, fun i hi => ?_, fun i hi => ?_, ?_, fun i => ?_, fun i hi => ?_, fun k k0 k1 => by omega, fun i hi hi2 => ?_, fun a a0 a1 => ?_⟩
    · rw [s4, hup_off (by decide), hup_off (by decide), hup_off (by decide)]; exact k4
    · rw [hup_row, g4r 195 (by decide), hup_off (by decide), e195]
      rfl
    · rw [tkF_row s3 (by decide), hup_at]
    · rw [tkF_row s3 (by decide), hup_ne (by omega), hup_off (by decide), hup_off (by decide), c1r _ (by decide)]
    · rw [tkF_row s3 (by decide), hup_off (by decide), hup_off (by decide), hup_ne (by omega), c1r _ (by decide)]
    · rw [tkF_row s3 (by decide), hup_off (by decide), hup_off (by decide), hup_at, hup_off (by decide), g4r 198 (by decide), hup_at]; exact hW
    · rw [tkF_row s3 (by decide), hup_off (by decide), hup_row, hup_off (by decide), c1r _ (by decide)]
      rfl
    · rw [tkF_row s3 (by decide), hup_off (by decide), hup_off (by decide), hup_off (by decide), c1r _ (by decide)]
    · rw [hup_off (by decide), g4r 198 (by decide), hup_ne (by omega), g1r _ (by decide)]
    · rw [tkF_row s3 (by omega), hup_off (by omega), hup_off (by omega), hup_off (by omega), c1r _ (by omega)]
  by_cases z : K (nx n (nx n j)) = 4
  · rw [if_pos z]
    exact tableCols hC hD hq h4 c4 (hup g4 195 (4 + q) 0) 4 0 _ c4 _ (by decide) (by decide) (fun _ => z) hT
  · obtain ⟨C', f1, f2, f3⟩ := failC (k := 1) s2
    obtain ⟨G', f4, f5, f6⟩ := badM (k := 1) U2
    rw [if_neg z, f1]
    refine ⟨0, 0, C', G', rfl, ?_, fcc.tr (f3.mono (fun a b z => tk_lc z)), fgg.tr (f6.mono (fun a b z => tx_lm z)), Or.inl ⟨rfl, rfl, 1, _, f2, f5, by decide⟩⟩
    refine lpO_inr ?_
    unfold fX12_readTable_s77 fX12_readTable_b97
    rw [w32_id (x := 4 + q) (by omega) (by omega), row195 U2.1.1 (by omega) (by omega), hup_at, isNameM U2, if_neg z, f4]
    simp only [Option.bind_some, if_true]
end SIM
