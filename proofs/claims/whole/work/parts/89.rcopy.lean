/-! A SCHEMA IS COPIED, RESET, LAID DOWN -/
def schC (d a b : Int) : Bool := (a == d && decide (0 ≤ b) && decide (b ≤ 3)) || (decide (d + 1 ≤ a) && decide (a ≤ d + 8) && decide (0 ≤ b))
theorem copy_seg {h : hH} {s d m : Int} (hs : h s (-1) = m) (hd : h d (-1) = m) (m0 : 0 ≤ m) : fX11_copy h s d = some (seg h d 0 m (h s)) ∧ fX11_copyWords h s d = some (seg h d 0 m (h s)) := by
  have : acp h s 0 d 0 (miD (h s (-1)) (h d (-1))) = some (seg h d 0 m (h s)) := by
    have hm : miD m m = m := by unfold miD; split <;> rfl
    rw [hs, hd, hm]
    unfold acp
    rw [hs, hd, if_pos (by omega)]
    unfold acH seg
    congr 1
    funext a b
    simp only [Int.zero_add]
  unfold fX11_copy fX11_copyWords
  rw [this]
  exact ⟨rfl, rfl⟩
theorem copySch_ok {h : hH} {s d : Int} (hs : SchemaAt h s) (hd : SchemaAt h d) (hn : d + 8 < s ∨ s + 8 < d) : ∃ h', fX4_copyFrom h d s = some h' ∧ Fr (schC d) h h' ∧ (h' d 0 = h s 0 ∧ h' d 1 = h s 1 ∧ h' d 2 = h s 2 ∧ h' d 3 = h s 3) ∧ ∀ k, 1 ≤ k → k ≤ 8 → ∀ j, 0 ≤ j → j < h (s + k) (-1) → h' (d + k) j = h (s + k) j := by
  obtain ⟨s4, s5, s6, s7, s8, s9, s10, s11, l1, l2, l3, l4, l5, l6, l7, l8⟩ := hs
  obtain ⟨d4, d5, d6, d7, d8, d9, d10, d11, m1, m2, m3, m4, m5, m6, m7, m8⟩ := hd
  unfold fX4_copyFrom
  simp only [pput, Option.bind_some]
  have e1 : hup h d 0 (h s 0) s 1 = h s 1 := by rw [hup_off (by omega)]
  rw [e1]
  have e2 : hup (hup h d 0 (h s 0)) d 1 (h s 1) s 2 = h s 2 := by rw [hup_off (by omega), hup_off (by omega)]
  rw [e2]
  have e3 : hup (hup (hup h d 0 (h s 0)) d 1 (h s 1)) d 2 (h s 2) s 3 = h s 3 := by rw [hup_off (by omega), hup_off (by omega), hup_off (by omega)]
  rw [e3]
  generalize hg : hup (hup (hup (hup h d 0 (h s 0)) d 1 (h s 1)) d 2 (h s 2)) d 3 (h s 3) = g0
  have go : ∀ a, a ≠ d → g0 a = h a := fun a ha => by rw [← hg, hup_off ha, hup_off ha, hup_off ha, hup_off ha]
  have gd : ∀ b, 4 ≤ b → g0 d b = h d b := fun b hb => by rw [← hg, hup_ne (by omega), hup_ne (by omega), hup_ne (by omega), hup_ne (by omega)]
  have gv : g0 d 0 = h s 0 ∧ g0 d 1 = h s 1 ∧ g0 d 2 = h s 2 ∧ g0 d 3 = h s 3 := by
    rw [← hg]
    exact ⟨by rw [hup_ne (by omega), hup_ne (by omega), hup_ne (by omega), hup_at], by rw [hup_ne (by omega), hup_ne (by omega), hup_at], by rw [hup_ne (by omega), hup_at], by rw [hup_at]⟩
  have f0 : Fr (schC d) h g0 := by
    rw [← hg]
    refine (((Fr.up ?_).tr (Fr.up ?_)).tr (Fr.up ?_)).tr (Fr.up ?_) <;> unfold schC <;> simp
  -- a row at a time
  have step : ∀ (g : hH) (k m : Int), 1 ≤ k → k ≤ 8 → 0 ≤ m → h (s + k) (-1) = m → h (d + k) (-1) = m → (∀ a, (a < d + 1 ∨ d + k ≤ a) → g a = g0 a) → ∃ g', fX11_copy g (s + k) (d + k) = some g' ∧ fX11_copyWords g (s + k) (d + k) = some g' ∧ (∀ a, a ≠ d + k → g' a = g a) ∧ (∀ j, 0 ≤ j → j < m → g' (d + k) j = h (s + k) j) ∧ Fr (schC d) g g' ∧ (∀ a, (a < d + 1 ∨ d + (k + 1) ≤ a) → g' a = g0 a) := fun g k m k1 k8 m0 hs' hd' hgo => by
    have es : g (s + k) = h (s + k) ∨ (d + 1 ≤ s + k ∧ s + k < d + k) := by
      by_cases z : s + k < d + 1 ∨ d + k ≤ s + k
      · exact Or.inl (by rw [hgo _ z, go _ (by omega)])
      · exact Or.inr (by omega)
    have es' : g (s + k) = h (s + k) := by
      rcases es with z | z
      · exact z
      · omega
    have ed : g (d + k) = h (d + k) := by rw [hgo _ (Or.inr (Int.le_refl _)), go _ (by omega)]
    obtain ⟨p1, p2⟩ := copy_seg (h := g) (s := s + k) (d := d + k) (m := m) (by rw [es']; exact hs') (by rw [ed]; exact hd') m0
    refine ⟨_, p1, p2, fun a ha => seg_off ha, fun j j0 j1 => ?_, ?_, fun a ha => ?_⟩
    · rw [seg_in j0 (by omega), Int.sub_zero, es']
    · exact seg_fr (fun b b0 => by unfold schC; simp; omega) (Int.le_refl _)
    · rw [seg_off (by omega)]
      exact hgo a (by omega)
  have rd : ∀ (g : hH) (k : Int), (∀ a, (a < d + 1 ∨ d + k ≤ a) → g a = g0 a) → 1 ≤ k → k ≤ 8 → ∀ b, 4 ≤ b → g s b = h s b ∧ g d b = h d b := fun g k hgo k1 k8 b hb => ⟨by rw [hgo s (by omega), go s (by omega)], by rw [hgo d (by omega), gd b hb]⟩
  obtain ⟨g1, a1, b1, c1, v1, f1, o1⟩ := step g0 1 4 (by decide) (by decide) (by decide) l1 m1 (fun a _ => rfl)
  obtain ⟨g2, a2, b2, c2, v2, f2, o2⟩ := step g1 2 4 (by decide) (by decide) (by decide) l2 m2 o1
  obtain ⟨g3, a3, b3, c3, v3, f3, o3⟩ := step g2 3 16 (by decide) (by decide) (by decide) l3 m3 o2
  obtain ⟨g4, a4, b4, c4, v4, f4, o4⟩ := step g3 4 16 (by decide) (by decide) (by decide) l4 m4 o3
  obtain ⟨g5, a5, b5, c5, v5, f5, o5⟩ := step g4 5 16 (by decide) (by decide) (by decide) l5 m5 o4
  obtain ⟨g6, a6, b6, c6, v6, f6, o6⟩ := step g5 6 18 (by decide) (by decide) (by decide) l6 m6 o5
  obtain ⟨g7, a7, b7, c7, v7, f7, o7⟩ := step g6 7 54 (by decide) (by decide) (by decide) l7 m7 o6
  obtain ⟨g8, a8, b8, c8, v8, f8, o8⟩ := step g7 8 36 (by decide) (by decide) (by decide) l8 m8 o7
  have r0 := rd g0 1 (fun a _ => rfl) (by decide) (by decide) 4 (by decide)
  have r1 := rd g1 2 o1 (by decide) (by decide) 5 (by decide)
  have r2 := rd g2 3 o2 (by decide) (by decide) 6 (by decide)
  have r3 := rd g3 4 o3 (by decide) (by decide) 7 (by decide)
  have r4 := rd g4 5 o4 (by decide) (by decide) 8 (by decide)
  have r5 := rd g5 6 o5 (by decide) (by decide) 9 (by decide)
  have r6 := rd g6 7 o6 (by decide) (by decide) 10 (by decide)
  have r7 := rd g7 8 o7 (by decide) (by decide) 11 (by decide)
  rw [r0.1, r0.2, s4, d4, b1]
  simp only [Option.bind_some]
  rw [r1.1, r1.2, s5, d5, a2]
  simp only [Option.bind_some]
  rw [r2.1, r2.2, s6, d6, b3]
  simp only [Option.bind_some]
  rw [r3.1, r3.2, s7, d7, a4]
  simp only [Option.bind_some]
  rw [r4.1, r4.2, s8, d8, a5]
  simp only [Option.bind_some]
  rw [r5.1, r5.2, s9, d9, a6]
  simp only [Option.bind_some]
  rw [r6.1, r6.2, s10, d10, a7]
  simp only [Option.bind_some]
  rw [r7.1, r7.2, s11, d11, a8]
  refine ⟨g8, rfl, f0.tr (f1.tr (f2.tr (f3.tr (f4.tr (f5.tr (f6.tr (f7.tr f8))))))), ?_, fun k k1 k8 j j0 j1 => ?_⟩
  · rw [o8 d (by omega)]; exact gv
  · have : k = 1 ∨ k = 2 ∨ k = 3 ∨ k = 4 ∨ k = 5 ∨ k = 6 ∨ k = 7 ∨ k = 8 := by omega
    rcases this with rfl | rfl | rfl | rfl | rfl | rfl | rfl | rfl
    · rw [c8 _ (by omega), c7 _ (by omega), c6 _ (by omega), c5 _ (by omega), c4 _ (by omega), c3 _ (by omega), c2 _ (by omega)]; exact v1 j j0 (by omega)
    · rw [c8 _ (by omega), c7 _ (by omega), c6 _ (by omega), c5 _ (by omega), c4 _ (by omega), c3 _ (by omega)]; exact v2 j j0 (by omega)
    · rw [c8 _ (by omega), c7 _ (by omega), c6 _ (by omega), c5 _ (by omega), c4 _ (by omega)]; exact v3 j j0 (by omega)
    · rw [c8 _ (by omega), c7 _ (by omega), c6 _ (by omega), c5 _ (by omega)]; exact v4 j j0 (by omega)
    · rw [c8 _ (by omega), c7 _ (by omega), c6 _ (by omega)]; exact v5 j j0 (by omega)
    · rw [c8 _ (by omega), c7 _ (by omega)]; exact v6 j j0 (by omega)
    · rw [c8 _ (by omega)]; exact v7 j j0 (by omega)
    · exact v8 j j0 (by omega)
/-- what is copied holds the same schema -/
theorem SchR.copied {h h' : hH} {s d : Int} {S : Int → Int} (hs : SchemaAt h s) (hR : SchR h s S) (hS : SOk S) (e0 : h' d 0 = h s 0 ∧ h' d 1 = h s 1 ∧ h' d 2 = h s 2 ∧ h' d 3 = h s 3) (e : ∀ k, 1 ≤ k → k ≤ 8 → ∀ j, 0 ≤ j → j < h (s + k) (-1) → h' (d + k) j = h (s + k) j) : SchR h' d S := by
  obtain ⟨-, -, -, -, -, -, -, -, l1, l2, l3, l4, l5, l6, l7, l8⟩ := hs
  obtain ⟨r0, r1, r2, r3, r4, r5, r6⟩ := hR
  obtain ⟨h0, h1, h2, h3, -⟩ := hS
  refine ⟨by rw [e0.1, e0.2.1, e0.2.2.1, e0.2.2.2]; exact r0, fun t t0 t1 => ?_, fun i i0 i1 => ?_, fun i i0 i1 => ?_, fun k k0 k1 => ?_, fun f f0 f1 => ?_, fun c c0 c1 => ?_⟩
  · rw [e 2 (by decide) (by decide) t t0 (by rw [l2]; omega)]; exact r1 t t0 t1
  · rw [e 4 (by decide) (by decide) i i0 (by rw [l4]; omega)]; exact r2 i i0 i1
  · rw [e 5 (by decide) (by decide) i i0 (by rw [l5]; omega)]; exact r3 i i0 i1
  · rw [e 6 (by decide) (by decide) _ (by omega) (by rw [l6]; omega), e 6 (by decide) (by decide) _ (by omega) (by rw [l6]; omega), e 6 (by decide) (by decide) _ (by omega) (by rw [l6]; omega)]; exact r4 k k0 k1
  · have q := fun i => e 7 (by decide) (by decide) (f * 9 + i)
    rw [e 7 (by decide) (by decide) (f * 9) (by omega) (by rw [l7]; omega), q 1 (by omega) (by rw [l7]; omega), q 2 (by omega) (by rw [l7]; omega), q 3 (by omega) (by rw [l7]; omega), q 4 (by omega) (by rw [l7]; omega), q 5 (by omega) (by rw [l7]; omega), q 6 (by omega) (by rw [l7]; omega), q 7 (by omega) (by rw [l7]; omega), q 8 (by omega) (by rw [l7]; omega)]; exact r5 f f0 f1
  · have q := fun i => e 8 (by decide) (by decide) (c * 6 + i)
    rw [e 8 (by decide) (by decide) (c * 6) (by omega) (by rw [l8]; omega), q 1 (by omega) (by rw [l8]; omega), q 2 (by omega) (by rw [l8]; omega), q 3 (by omega) (by rw [l8]; omega), q 4 (by omega) (by rw [l8]; omega), q 5 (by omega) (by rw [l8]; omega)]; exact r6 c c0 c1
/-- the draft is emptied -/
theorem resetSch_ok {h : hH} (hL : Lay h) : ∃ h', fX4_reset h 25 = some h' ∧ Fr (schC 25) h h' ∧ (h' 25 0 = 0 ∧ h' 25 1 = 0 ∧ h' 25 2 = 0 ∧ h' 25 3 = 0) ∧ (∀ i, 0 ≤ i → i < 16 → h' 29 i = -1) ∧ ∀ i, 0 ≤ i → i < 16 → h' 30 i = 0 := by
  unfold fX4_reset
  simp only [pput, Option.bind_some]
  generalize hg : hup (hup (hup (hup h 25 0 0) 25 1 0) 25 2 0) 25 3 0 = g
  have fr : Fr (schC 25) h g := by
    rw [← hg]
    refine (((Fr.up ?_).tr (Fr.up ?_)).tr (Fr.up ?_)).tr (Fr.up ?_) <;> decide
  have lay : ∀ x : hH, Fr (schC 25) h x → Lay x := fun x hx => hx.lay hL (by decide +kernel) (by decide +kernel)
  have Lg := lay g fr
  have v : g 25 0 = 0 ∧ g 25 1 = 0 ∧ g 25 2 = 0 ∧ g 25 3 = 0 := by
    rw [← hg]
    exact ⟨by rw [hup_ne (by omega), hup_ne (by omega), hup_ne (by omega), hup_at], by rw [hup_ne (by omega), hup_ne (by omega), hup_at], by rw [hup_ne (by omega), hup_at], by rw [hup_at]⟩
  rw [ly_25_5 Lg, fill_ok (by rw [ll_27 Lg]; decide) (by rw [ll_27 Lg]; decide), ll_27 Lg]
  simp only [Option.bind_some]
  have f1 : Fr (schC 25) h (seg g 27 0 4 fun _ => 0) := fr.tr (seg_fr (fun b b0 => by unfold schC; simp; omega) (Int.le_refl _))
  have L1 := lay _ f1
  rw [ly_25_7 L1, fill_ok (by rw [ll_29 L1]; decide) (by rw [ll_29 L1]; decide), ll_29 L1]
  simp only [Option.bind_some]
  have f2 : Fr (schC 25) h (seg (seg g 27 0 4 fun _ => 0) 29 0 16 fun _ => -1) := f1.tr (seg_fr (fun b b0 => by unfold schC; simp; omega) (Int.le_refl _))
  have L2 := lay _ f2
  rw [ly_25_8 L2, fill_ok (by rw [ll_30 L2]; decide) (by rw [ll_30 L2]; decide), ll_30 L2]
  simp only [Option.bind_some]
  refine ⟨_, rfl, f2.tr (seg_fr (fun b b0 => by unfold schC; simp; omega) (Int.le_refl _)), ?_, fun i i0 i1 => ?_, fun i i0 i1 => ?_⟩
  · rw [seg_off (by decide), seg_off (by decide), seg_off (by decide)]; exact v
  · rw [seg_off (by decide), seg_in i0 (by omega)]
  · rw [seg_in i0 (by omega)]
/-- the model lays the plan down -/
def layC (a b : Int) : Bool := (a == 194 && decide (0 ≤ b)) || (a == 198 && decide (0 ≤ b) && decide (b < 20)) || (a == 192 && b == 44)
theorem lay_1 : refT.all (fun q => !(layC q.1 q.2.1)) = true := by decide +kernel
theorem lay_2 : lenT.all (fun q => !(layC q.1 (-1))) = true := by decide +kernel
theorem laidM {g x0 : hH} (hL : Lay g) : ∃ g', lpO (fX12_schema_s109 x0 192) (g, 0) = some (g 192 20, g') ∧ Fr layC g g' ∧ (∀ i, 0 ≤ i → i < 148 → g' 194 i = g 195 i) ∧ (∀ i, 148 ≤ i → i < 1420 → g' 194 i = 0) ∧ (∀ i, 0 ≤ i → i < 20 → g' 198 i = g 198 (20 + i)) ∧ g' 192 44 = 0 := by
  have inner : ∀ (x1 a : hH), Fr layC g a → a 198 = g 198 → (∀ k, 0 ≤ k → k < 1420 → a 194 k = if k < 148 then g 195 k else 0) → ∃ r, lpO (fX12_schema_s147 x1 192) (a, 0) = some r ∧ (r.1 = g 192 20 ∧ Fr layC g r.2 ∧ (∀ i, 0 ≤ i → i < 148 → r.2 194 i = g 195 i) ∧ (∀ i, 148 ≤ i → i < 1420 → r.2 194 i = 0) ∧ (∀ i, 0 ≤ i → i < 20 → r.2 198 i = g 198 (20 + i)) ∧ r.2 192 44 = 0) := fun x1 a fa a198 a194 => by
    refine lpO_invG (f := fX12_schema_s147 x1 192) (fun i (b : hH) => (b, i)) 20 (fun i b => Fr layC g b ∧ b 194 = a 194 ∧ (∀ k, 0 ≤ k → k < i → b 198 k = g 198 (20 + k)) ∧ ∀ k, 20 ≤ k → b 198 k = g 198 k) _ (fun i b i0 i1 hb => ?_) (fun b hb => ?_) (Int.le_refl _) (by decide) ⟨fa, rfl, fun k k0 k1 => by omega, fun k k0 => by rw [a198]⟩
    · obtain ⟨h1, h2, h3, h4⟩ := hb
      have Lb := h1.lay hL lay_1 lay_2
      refine Or.inl ⟨hup b 198 i (g 198 (20 + i)), ?_, h1.tr (Fr.up (by unfold layC; simp; omega)), by rw [hup_off (by decide)]; exact h2, fun k k0 k1 => ?_, fun k k0 => ?_⟩
      · unfold fX12_schema_s147
        dsimp only
        rw [if_pos i1, w32_id (x := 20 + i) (by omega) (by omega), ly_192_10 Lb, aget_in (by omega) (by rw [ll_198 Lb]; omega), h4 _ (by omega)]
        simp only [Option.bind_some]
        rw [aput_in i0 (by rw [ll_198 Lb]; omega), w1 (by omega) (by omega)]
        rfl
      · by_cases e : k = i
        · rw [e, hup_at]
        · rw [hup_ne (by omega)]; exact h3 k k0 (by omega)
      · rw [hup_ne (by omega)]; exact h4 k k0
    · obtain ⟨h1, h2, h3, h4⟩ := hb
      refine ⟨(g 192 20, hup b 192 44 0), ?_, ?_⟩
      · unfold fX12_schema_s147
        dsimp only
        rw [if_neg (by decide)]
        simp only [pput, Option.bind_some]
        rw [hup_ne (by omega), h1 192 20 (by decide)]
      · dsimp only
        refine ⟨rfl, h1.tr (Fr.up (by decide)), fun i i0 i1 => ?_, fun i i0 i1 => ?_, fun i i0 i1 => ?_, hup_at⟩
        · rw [hup_off (by decide), h2, a194 i i0 (by omega), if_pos i1]
        · rw [hup_off (by decide), h2, a194 i (by omega) i1, if_neg (by omega)]
        · rw [hup_off (by decide)]; exact h3 i i0 i1
  obtain ⟨r, r1, r2⟩ := lpO_invG (f := fX12_schema_s109 x0 192) (fun i (b : hH) => (b, i)) 1420 (fun i b => Fr layC g b ∧ b 198 = g 198 ∧ b 195 = g 195 ∧ ∀ k, 0 ≤ k → k < i → b 194 k = if k < 148 then g 195 k else 0) (fun r => r.1 = g 192 20 ∧ Fr layC g r.2 ∧ (∀ i, 0 ≤ i → i < 148 → r.2 194 i = g 195 i) ∧ (∀ i, 148 ≤ i → i < 1420 → r.2 194 i = 0) ∧ (∀ i, 0 ≤ i → i < 20 → r.2 198 i = g 198 (20 + i)) ∧ r.2 192 44 = 0) (fun i b i0 i1 hb => by
    obtain ⟨h1, h2, h3, h4⟩ := hb
    have Lb := h1.lay hL lay_1 lay_2
    refine Or.inl ⟨hup b 194 i (if i < 148 then g 195 i else 0), ?_, h1.tr (Fr.up (by unfold layC; simp; omega)), by rw [hup_off (by decide)]; exact h2, by rw [hup_off (by decide)]; exact h3, fun k k0 k1 => ?_⟩
    · unfold fX12_schema_s109 fX12_schema_b138
      dsimp only
      rw [if_pos i1, ly_192_6 Lb, w1 (by omega) (by omega), aput_in i0 (by rw [ll_194 Lb]; omega)]
      by_cases z : i < 148
      · rw [if_pos z, if_pos z, row195 Lb i0 z, h3]
        simp only [Option.bind_some]
        rw [aput_in i0 (by rw [ll_194 Lb]; omega)]
        rfl
      · rw [if_neg z, if_neg z]
        rfl
    · by_cases e : k = i
      · rw [e, hup_at]
      · rw [hup_ne (by omega)]; exact h4 k k0 (by omega)) (fun b hb => by
    obtain ⟨h1, h2, h3, h4⟩ := hb
    obtain ⟨r, r1, r2⟩ := inner b b h1 h2 h4
    refine ⟨r, ?_, r2⟩
    unfold fX12_schema_s109
    dsimp only
    rw [if_neg (by decide), r1]
    rfl) (i := 0) (a := g) (Int.le_refl _) (by decide) ⟨Fr.rf, rfl, rfl, fun k k0 k1 => by omega⟩
  exact ⟨r.2, by rw [r1, ← r2.1], r2.2⟩
