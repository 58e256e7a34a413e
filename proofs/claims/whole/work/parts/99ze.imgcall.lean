/-! image AND restore AS CALLS -/
theorem imageIn_ok {h : hH} (hL : Lay h) (a : Int) : (∃ k p, KP k p ∧ k = a ∧ fX11_imageIn h 0 a = some p ∧ fX12_isIn (hup h 192 0 0) a 0 1 = some 1) ∨ (fX11_imageIn h 0 a = some (-1) ∧ ∀ g, fX12_isIn g a 0 1 = some 0) := by
  have in1 : ∀ v p, (v = 0 ∨ v = 1) → h 75 v = p → fX11_imageIn h 0 v = some p := fun v p hv hp => by
    unfold fX11_imageIn
    rw [if_neg (by omega), ly_0_12 hL, ll_75 hL, if_pos (by omega), aget_in (by omega) (by rw [ll_75 hL]; omega)]
    simp only [Option.bind_some]
    rw [hp]
  by_cases z0 : a = 0
  · subst z0
    exact Or.inl ⟨0, 150, Or.inl ⟨rfl, rfl⟩, rfl, in1 0 150 (Or.inl rfl) (ly_75_0 hL), rfl⟩
  by_cases z1 : a = 1
  · subst z1
    exact Or.inl ⟨1, 171, Or.inr ⟨rfl, rfl⟩, rfl, in1 1 171 (Or.inr rfl) (ly_75_1 hL), rfl⟩
  refine Or.inr ⟨?_, fun g => ?_⟩
  · unfold fX11_imageIn fX11_imageIn_b22
    rw [ly_0_12 hL, ll_75 hL]
    by_cases z : a < 0
    · rw [if_pos z]
    · rw [if_neg z, if_neg (by omega)]
  · unfold fX12_isIn
    by_cases z : a < 0
    · rw [if_pos z]
    · rw [if_neg z, if_pos (by omega)]
theorem image_ok {h : hH} (hL : Lay h) (h1 : SchI h) (h2 : StI h) (hn : NamR h h 4 0 (h 194)) (hS : SenR h 22 (h 194)) (hI : ImgI h) (a : Int) : ∃ r c e, fX11_image h 0 a = some (r, c) ∧ fX12_image c 192 a = some (r, e) ∧ Lay e ∧ Fr imA h e ∧ ImgI e := by
  rcases imageIn_ok hL a with ⟨k, p, hk, rfl, i1, i2⟩ | ⟨i1, i2⟩
  · have kb : (k = 0 ∨ k = 1) ∧ (p = 150 ∨ p = 171) := by rcases hk with ⟨rfl, rfl⟩ | ⟨rfl, rfl⟩ <;> simp
    obtain ⟨hk1, hp⟩ := kb
    have L1 : Lay (hup h p 0 1) := by rcases hp with rfl | rfl <;> exact hL.upF (by decide)
    have f1 : Fr (iqC p) h (hup h p 0 1) := Fr.up (by unfold iqC; simp)
    have lay : ∀ x : hH, Fr (iqC p) h x → Lay x := fun x hx => (hx.mono (fun a b z => iq_A hk z)).lay hL imA_1 imA_2
    generalize hg1 : hup h p 0 1 = g1 at L1 f1
    obtain ⟨m1, m2, m3, m4, m5, m6, m7⟩ := hk.at L1
    obtain ⟨g2, c1, c2, c3, c4⟩ := copySch_ok (h := g1) (s := 4) (d := p + 1) (schAt_4 L1) m4 (Or.inr (by omega))
    have f2 : Fr (iqC p) h g2 := f1.tr (c2.mono (fun a b z => by unfold iqC; rw [z]; simp))
    have L2 := lay _ f2
    obtain ⟨-, n2, n3, n4, n5, n6, n7⟩ := hk.at L2
    have hst1 : StH g2 13 (h 194) := StH.sameL (fun a a0 a1 => f2.row a (iqC_off (by omega))) h2.1
    obtain ⟨g3, d1, d2, d3⟩ := copyState_ok (h := g2) (s := 13) (d := p + 10) (stAt_13 L2) n5 (Or.inr (by omega)) hst1
    have f3 : Fr (iqC p) h g3 := f2.tr (d3.mono (fun a b z => by unfold iqC; rw [z]; simp))
    have L3 := lay _ f3
    obtain ⟨-, -, o3, o4, o5, o6, o7⟩ := hk.at L3
    obtain ⟨g4, e1, e2, e3, e4⟩ := copySen_ok (h := g3) (s := 22) (d := p + 19) (ly_22_3 L3) o6 (ll_23 L3) o7 (by omega)
    have f4 : Fr (iqC p) h g4 := f3.tr (e2.mono (fun a b z => by unfold iqC; rw [z]; simp))
    have L4 := lay _ f4
    have cls : fX11_image h 0 k = some (1, g4) := by
      unfold fX11_image
      rw [i1]
      simp only [Option.bind_some]
      rw [if_neg (by omega)]
      simp only [pput, Option.bind_some]
      rw [hg1, m1, ly_0_1 L1, c1]
      simp only [Option.bind_some]
      rw [n2, ly_0_2 L2, d1]
      simp only [Option.bind_some]
      rw [o3, ly_0_3 L3, e1]
      rfl
    -- what the class's image holds
    have g1r : ∀ a, a ≠ p → g1 a = h a := fun a ha => by rw [← hg1, hup_off ha]
    have sch : SchR g2 (p + 1) (h 194) := SchR.copied (h := g1) (schAt_4 L1) (SchR.rows (h := h) (fun x x0 x1 => g1r _ (by omega)) h1.1) h1.2 c3 c4
    have r4 : ∀ a, p + 1 ≤ a → a < p + 10 → g4 a = g2 a := fun a a0 a1 => by
      rw [e2.row a (fun b => by unfold snF; simp; omega)]
      exact d3.row a (fun b => by unfold stC rwC; simp; omega)
    have r4s : ∀ a, p + 10 ≤ a → a < p + 19 → g4 a = g3 a := fun a a0 a1 => e2.row a (fun b => by unfold snF; simp; omega)
    have r40 : g4 p = g1 p := by
      rw [e2.row p (fun b => by unfold snF; simp; omega), d3.row p (fun b => by unfold stC rwC; simp; omega)]
      exact c2.row p (fun b => by unfold schC; simp; omega)
    have r3 : ∀ a, a < p → g3 a = h a := fun a ha => f3.row a (iqC_off (by omega))
    have rM : ∀ a, 191 < a → g4 a = h a := fun a ha => f4.row a (iqC_off (by omega))
    -- the model
    have Lt : Lay (hup g4 192 0 0) := L4.upF (by decide)
    have mod : fX12_image g4 192 k = some (1, hup (seg (seg (hup g4 192 0 0) 221 (1420 * k) 1420 (hup g4 192 0 0 194)) 222 (20 * k) 20 (hup g4 192 0 0 198)) 223 k 1) := by
      unfold fX12_image
      simp only [pput, Option.bind_some]
      rw [show fX12_isIn (hup g4 192 0 0) k 0 1 = some 1 from i2]
      simp only [Option.bind_some]
      rw [if_neg (by decide)]
      exact imgLoop Lt hk1
    rw [show hup g4 192 0 0 194 = h 194 by rw [hup_off (by decide), rM 194 (by decide)], show hup g4 192 0 0 198 = h 198 by rw [hup_off (by decide), rM 198 (by decide)]] at mod
    generalize he : hup (seg (seg (hup g4 192 0 0) 221 (1420 * k) 1420 (h 194)) 222 (20 * k) 20 (h 198)) 223 k 1 = e at mod
    have fe : Fr imM g4 e := by
      rw [← he]
      refine (((Fr.up (by decide)).tr (seg_fr2 (fun b b0 b1 => ?_))).tr (seg_fr2 (fun b b0 b1 => ?_))).tr (Fr.up ?_) <;> unfold imM <;> simp <;> omega
    have F : Fr imA h e := (f4.mono (fun a b z => iq_A hk z)).tr (fe.mono (fun a b z => imM_A z))
    have er : ∀ a, a < 192 → e a = g4 a := fun a ha => fe.row a (fun b => by unfold imM; simp; omega)
    have e221 : ∀ i, 0 ≤ i → i < 1420 → im e k i = h 194 i := fun i x0 x1 => by
      unfold im
      rw [← he, hup_off (by decide), seg_off (by decide), seg_in (by omega) (by omega), show 1420 * k + i - 1420 * k = i by omega]
    have e222 : ∀ i, 0 ≤ i → i < 20 → e 222 (20 * k + i) = h 198 i := fun i x0 x1 => by
      rw [← he, hup_off (by decide), seg_in (by omega) (by omega), show 20 * k + i - 20 * k = i by omega]
    have e223 : e 223 k = 1 := by rw [← he, hup_at]
    have T0 := h1.2.1
    have hM : ImgR e p k := by
      refine Or.inr ⟨?_, e223, ?_, h1.2.cong (fun i i0 i1 => e221 i i0 (by omega)), ?_, h2.2.cong (fun i i0 i1 => (e221 i i0 (by omega)).symm) T0.2, ?_, fun t t0 t1 => ?_, fun t x t0 t1 x0 x1 => ?_⟩
      · rw [er p (by omega), r40, ← hg1, hup_at]
      · refine SchR.cong (fun i i0 i1 => e221 i i0 (by omega)) h1.2 (SchR.rows (h := g2) (fun x x0 x1 => ?_) sch)
        rw [er _ (by omega), r4 _ (by omega) (by omega)]
      · refine (StH.sameL (h := g3) (fun a a0 a1 => ?_) d2).cong (fun i i0 i1 => (e221 i i0 (by omega)).symm)
        rw [er _ (by omega), r4s _ (by omega) (by omega)]
      · refine SenR.cp (c := h) (p := 22) hS ?_ ?_ (fun j j0 j1 => ?_) (fun i i0 i1 => e221 i (by omega) (by omega))
        · rw [er _ (by omega), e3.1, r3 22 (by omega)]
        · rw [er _ (by omega), e3.2.2, r3 22 (by omega)]
        · rw [er _ (by omega), e4 j j0 j1, r3 _ (by omega)]
      · rw [e221 0 (by decide) (by decide)] at t1
        rw [er _ (by omega), r4 _ (by omega) (by omega), e222 t t0 (by omega), c4 1 (by decide) (by decide) t t0 (by rw [show (4 : Int) + 1 = 5 from rfl, ll_5 L1]; omega), g1r _ (by omega)]
        have := hn.1 t t0 t1
        rw [Int.zero_add] at this
        exact this
      · rw [e221 0 (by decide) (by decide)] at t1
        rw [e221 (4 + t) (by omega) (by omega)] at x1
        have bw := h1.2.2.2.2.2.1 t t0 t1
        rw [er _ (by omega), r4 _ (by omega) (by omega), e222 _ (by omega) (by omega), c4 3 (by decide) (by decide) _ (by omega) (by rw [show (4 : Int) + 3 = 7 from rfl, ll_7 L1]; omega), g1r _ (by omega)]
        have := hn.2 t x t0 t1 x0 x1
        rw [Int.zero_add] at this
        exact this
    have oth : ∀ k' p', KP k' p' → k' ≠ k → ImgR h p' k' → ImgR e p' k' := fun k' p' hk' hne hI' => by
      have pp : (k = 0 ∧ p = 150 ∧ k' = 1 ∧ p' = 171) ∨ (k = 1 ∧ p = 171 ∧ k' = 0 ∧ p' = 150) := by
        rcases hk with ⟨rfl, rfl⟩ | ⟨rfl, rfl⟩ <;> rcases hk' with ⟨rfl, rfl⟩ | ⟨rfl, rfl⟩ <;> simp at hne ⊢
      refine hI'.of (fun a a0 a1 => ?_) (fun i j0 j1 => ?_) (fun i j0 j1 => ?_) ?_
      · rw [er a (by omega), f4.row a (iqC_off (by omega))]
      · rw [← he, hup_off (by decide), seg_off (by decide), seg_out (by omega), hup_off (by decide), rM 221 (by decide)]
      · rw [← he, hup_off (by decide), seg_out (by omega), seg_off (by decide), hup_off (by decide), rM 222 (by decide)]
      · rw [← he, hup_ne (by omega), seg_off (by decide), seg_off (by decide), hup_off (by decide), rM 223 (by decide)]
    refine ⟨1, g4, e, cls, mod, F.lay hL imA_1 imA_2, F, ?_⟩
    rcases hk with ⟨rfl, rfl⟩ | ⟨rfl, rfl⟩
    · exact ⟨hM, oth 1 171 (Or.inr ⟨rfl, rfl⟩) (by decide) hI.2⟩
    · exact ⟨oth 0 150 (Or.inl ⟨rfl, rfl⟩) (by decide) hI.1, hM⟩
  · refine ⟨0, h, hup h 192 0 0, ?_, ?_, hL.upF (by decide), Fr.up (by decide), hI.of (fun a a0 a1 => hup_off (by omega)) (hup_off (by decide)) (hup_off (by decide)) (hup_off (by decide))⟩
    · unfold fX11_image
      rw [i1]
      rfl
    · unfold fX12_image
      simp only [pput, Option.bind_some]
      rw [i2]
      rfl
def reA (a b : Int) : Bool := schC 4 a b || stC 13 a b || snF 22 a b || (a == 0 && b == 11) || (a == 192 && (b == 0 || b == 44)) || (a == 194 && decide (0 ≤ b)) || (a == 198 && decide (0 ≤ b) && decide (b < 20))
theorem reA_1 : refT.all (fun q => !(reA q.1 q.2.1)) = true := by decide +kernel
theorem reA_2 : lenT.all (fun q => !(reA q.1 (-1))) = true := by decide +kernel
theorem restore_ok {h : hH} (hL : Lay h) (h1 : SchI h) (h2 : StI h) (h3 : UndI h) (hn : NamR h h 4 0 (h 194)) (hS : SenR h 22 (h 194)) (hI : ImgI h) (a : Int) : ∃ r c e, fX11_restore h 0 a = some (r, c) ∧ fX12_restore c 192 a = some (r, e) ∧ Lay e ∧ Fr reA h e ∧ SchI e ∧ StI e ∧ UndI e ∧ NamR e e 4 0 (e 194) ∧ SenR e 22 (e 194) := by
  have stay : fX11_restore h 0 a = some (0, h) → fX12_restore h 192 a = some (0, hup h 192 0 0) → ∃ r c e, fX11_restore h 0 a = some (r, c) ∧ fX12_restore c 192 a = some (r, e) ∧ Lay e ∧ Fr reA h e ∧ SchI e ∧ StI e ∧ UndI e ∧ NamR e e 4 0 (e 194) ∧ SenR e 22 (e 194) := fun q1 q2 => by
    have e4 : hup h 192 0 0 194 = h 194 := hup_off (by decide)
    refine ⟨0, h, hup h 192 0 0, q1, q2, hL.upF (by decide), Fr.up (by decide), h1.of (fun a a0 a1 => hup_off (by omega)) (fun i _ _ => by rw [e4]), h2.of (fun a a0 a1 => hup_off (by omega)) e4, h3.of (by rw [hup_off (by decide)]) (fun a a0 a1 => hup_off (by omega)) (by rw [hup_ne (by omega)]) (hup_off (by decide)) (fun i _ => by rw [e4]) h1.2.1.2, ?_, ?_⟩
    · rw [e4]
      unfold NamR
      rw [hup_off (by decide), hup_off (by decide), hup_off (by decide)]
      exact hn
    · rw [e4]
      exact hS.cp (by rw [hup_off (by decide)]) (by rw [hup_off (by decide)]) (fun j _ _ => by rw [hup_off (by decide)]) (fun _ _ _ => rfl)
  rcases imageIn_ok hL a with ⟨k, p, hk, rfl, i1, i2⟩ | ⟨i1, i2⟩
  · have kb : (k = 0 ∨ k = 1) ∧ (p = 150 ∨ p = 171) := by rcases hk with ⟨rfl, rfl⟩ | ⟨rfl, rfl⟩ <;> simp
    obtain ⟨hk1, hp⟩ := kb
    have hM : ImgR h p k := by
      rcases hk with ⟨rfl, rfl⟩ | ⟨rfl, rfl⟩
      · exact hI.1
      · exact hI.2
    have mod0 : ∀ g, Lay g → fX12_restore g 192 k = if g 223 k = 0 then some (0, hup g 192 0 0) else lpO (fX12_restore_s27 (hup g 192 0 0) 192 k) (hup g 192 0 0, 0) := fun g Lg => by
      have Lt : Lay (hup g 192 0 0) := Lg.upF (by decide)
      unfold fX12_restore
      simp only [pput, Option.bind_some]
      rw [show fX12_isIn (hup g 192 0 0) k 0 1 = some 1 from i2]
      simp only [Option.bind_some]
      rw [if_neg (by decide), ly_192_65 Lt, aget_in (by omega) (by rw [ll_223 Lt]; omega)]
      simp only [Option.bind_some]
      rw [show hup g 192 0 0 223 k = g 223 k by rw [hup_off (by decide)]]
    rcases hM with ⟨m1, m2⟩ | ⟨m1, m2, w3, w4, w5, w6, w7, w8, w9⟩
    · refine stay ?_ ?_
      · unfold fX11_restore
        rw [i1]
        simp only [Option.bind_some]
        rw [if_neg (by omega), if_pos m1]
      · rw [mod0 h hL, if_pos m2]
    · obtain ⟨n1, n2, n3, n4, n5, n6, n7⟩ := hk.at hL
      obtain ⟨g2, c1, c2, c3, c4⟩ := copySch_ok (h := h) (s := p + 1) (d := 4) n4 (schAt_4 hL) (Or.inl (by omega))
      have L2 := c2.lay hL (by decide +kernel) (by decide +kernel)
      obtain ⟨-, o2, -, -, o5, -⟩ := hk.at L2
      have hst1 : StH g2 (p + 10) (im h k) := StH.sameL (fun a a0 a1 => c2.row a (fun b => by unfold schC; simp; omega)) w5
      obtain ⟨g3, d1, d2, d3⟩ := copyState_ok (h := g2) (s := p + 10) (d := 13) o5 (stAt_13 L2) (Or.inl (by omega)) hst1
      have L3 := d3.lay L2 (by decide +kernel) (by decide +kernel)
      obtain ⟨-, -, q3, -, -, q6, q7⟩ := hk.at L3
      obtain ⟨g4, e1, e2, e3, e4⟩ := copySen_ok (h := g3) (s := p + 19) (d := 22) q6 (ly_22_3 L3) q7 (ll_23 L3) (by omega)
      have L4 := e2.lay L3 (by decide +kernel) (by decide +kernel)
      have cls : fX11_restore h 0 k = some (1, hup g4 0 11 0) := by
        unfold fX11_restore
        rw [i1]
        simp only [Option.bind_some]
        rw [if_neg (by omega), if_neg (by omega), n1, ly_0_1 hL, c1]
        simp only [Option.bind_some]
        rw [o2, ly_0_2 L2, d1]
        simp only [Option.bind_some]
        rw [q3, ly_0_3 L3, e1]
        rfl
      have L5 : Lay (hup g4 0 11 0) := L4.upF (by decide)
      have F5 : Fr (fun a b => reA a b && decide (a < 192)) h (hup g4 0 11 0) := by
        refine (((c2.mono (fun a b z => ?_)).tr (d3.mono (fun a b z => ?_))).tr (e2.mono (fun a b z => ?_))).tr (Fr.up (by decide))
        · have := z
          unfold reA schC at *
          simp at z ⊢
          omega
        · have : a < 192 := by unfold stC rwC at z; simp at z; omega
          unfold reA
          rw [z]
          simp [this]
        · have : a < 192 := by unfold snF at z; simp at z; omega
          unfold reA
          rw [z]
          simp [this]
      have rM : ∀ a, 191 < a → hup g4 0 11 0 a = h a := fun a ha => F5.row a (fun b => by simp; omega)
      generalize hg5 : hup g4 0 11 0 = g5 at L5 F5 rM cls
      have Lt : Lay (hup g5 192 0 0) := L5.upF (by decide)
      have mod := mod0 g5 L5
      rw [if_neg (by rw [rM 223 (by decide), m2]; decide), restLoop Lt hk1] at mod
      have ei : im (hup g5 192 0 0) k = im h k := by unfold im; rw [hup_off (by decide), rM 221 (by decide)]
      have ej : hup g5 192 0 0 222 = h 222 := by rw [hup_off (by decide), rM 222 (by decide)]
      rw [ei, ej] at mod
      generalize he : hup (seg (seg (hup g5 192 0 0) 194 0 1420 (im h k)) 198 0 20 (fun i => h 222 (20 * k + i))) 192 44 0 = e at mod
      have fe : Fr (fun a b => reA a b && decide (192 ≤ a)) g5 e := by
        rw [← he]
        refine (((Fr.up (by decide)).tr (seg_fr2 (fun b b0 b1 => ?_))).tr (seg_fr2 (fun b b0 b1 => ?_))).tr (Fr.up (by decide)) <;> unfold reA <;> simp <;> omega
      have F : Fr reA h e := (F5.mono (fun a b z => by simp at z; exact z.1)).tr (fe.mono (fun a b z => by simp at z; exact z.1))
      have er : ∀ a, a < 192 → e a = g5 a := fun a ha => fe.row a (fun b => by simp; omega)
      have e194 : ∀ i, 0 ≤ i → i < 1420 → e 194 i = im h k i := fun i x0 x1 => by
        rw [← he, hup_off (by decide), seg_off (by decide), seg_in (by omega) (by omega), Int.sub_zero]
      have e198 : ∀ i, 0 ≤ i → i < 20 → e 198 i = h 222 (20 * k + i) := fun i x0 x1 => by
        rw [← he, hup_off (by decide), seg_in (by omega) (by omega), Int.sub_zero]
      have g5o : ∀ a, a ≠ 0 → g5 a = g4 a := fun a ha => by rw [← hg5, hup_off ha]
      have r4 : ∀ a, 4 ≤ a → a < 13 → g4 a = g2 a := fun a a0 a1 => by
        rw [e2.row a (fun b => by unfold snF; simp; omega)]
        exact d3.row a (fun b => by unfold stC rwC; simp; omega)
      have r4s : ∀ a, 13 ≤ a → a < 22 → g4 a = g3 a := fun a a0 a1 => e2.row a (fun b => by unfold snF; simp; omega)
      have r3 : ∀ a, 23 < a → a < 192 → g3 a = h a := fun a a0 a1 => by
        rw [d3.row a (fun b => by unfold stC rwC; simp; omega)]
        exact c2.row a (fun b => by unfold schC; simp; omega)
      have T0 := w4.1
      have sch : SchR g2 4 (im h k) := SchR.copied (h := h) n4 w3 w4 c3 c4
      obtain ⟨u, ⟨u1, u2, u3, u4, u5, u6⟩, u7, u8⟩ := h3
      have g74 : e 74 = h 74 := F.row 74 (fun b => by unfold reA schC stC rwC snF; simp)
      obtain ⟨-, -, -, -, -, -, -, -, l1, l2, l3, -⟩ := n4
      refine ⟨1, g5, e, cls, mod, F.lay hL reA_1 reA_2, F, ⟨?_, w4.cong (fun i i0 i1 => e194 i i0 (by omega))⟩, ⟨?_, w6.cong (fun i i0 i1 => (e194 i i0 (by omega)).symm) T0.2⟩, ⟨0, ⟨?_, Int.le_refl _, by decide, by rw [g74]; exact u4, by rw [g74]; exact u5, fun j j0 j1 => by omega⟩, ?_, fun j j0 j1 => by omega⟩, ⟨fun t t0 t1 => ?_, fun t x t0 t1 x0 x1 => ?_⟩, ?_⟩
      · refine SchR.cong (fun i i0 i1 => e194 i i0 (by omega)) w4 (SchR.rows (h := g2) (fun x x0 x1 => ?_) sch)
        rw [er _ (by omega), g5o _ (by omega), r4 _ (by omega) (by omega)]
      · refine (StH.sameL (h := g3) (fun a a0 a1 => ?_) d2).cong (fun i i0 i1 => (e194 i i0 (by omega)).symm)
        rw [er _ (by omega), g5o _ (by omega), r4s _ (by omega) (by omega)]
      · rw [er 0 (by decide), ← hg5, hup_at]
      · rw [← he, hup_at]
      · rw [e194 0 (by decide) (by decide)] at t1
        rw [er _ (by omega), g5o _ (by omega), r4 _ (by omega) (by omega), Int.zero_add, e198 t t0 (by omega), c4 1 (by decide) (by decide) t t0 (by rw [l1]; omega)]
        exact w8 t t0 t1
      · rw [e194 0 (by decide) (by decide)] at t1
        rw [e194 (4 + t) (by omega) (by omega)] at x1
        have bw := w4.2.2.2.2.1 t t0 t1
        rw [er _ (by omega), g5o _ (by omega), r4 _ (by omega) (by omega), Int.zero_add, e198 _ (by omega) (by omega), c4 3 (by decide) (by decide) _ (by omega) (by rw [l3]; omega)]
        exact w9 t x t0 t1 x0 x1
      · refine SenR.cp (c := h) (p := p + 19) w7 ?_ ?_ (fun j j0 j1 => ?_) (fun i i0 i1 => e194 i (by omega) (by omega))
        · rw [er _ (by omega), g5o _ (by omega), e3.1, r3 _ (by omega) (by omega)]
        · rw [er _ (by omega), g5o _ (by omega), e3.2.2, r3 _ (by omega) (by omega)]
        · rw [er _ (by omega), g5o _ (by omega), e4 j j0 j1, r3 _ (by omega) (by omega)]
  · refine stay ?_ ?_
    · unfold fX11_restore
      rw [i1]
      rfl
    · unfold fX12_restore
      simp only [pput, Option.bind_some]
      rw [i2]
      rfl
