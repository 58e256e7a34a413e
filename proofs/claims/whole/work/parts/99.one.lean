/-! READING ONE STATEMENT, on two heaps -/
def rsC (a b : Int) : Bool := lnC2 a b || tokC a b
def rsM (a b : Int) : Bool := lnM a b || (a == 192 && (b == 0 || b == 2 || b == 3 || b == 4 || b == 5 || b == 16))
theorem rsC_1 : refT.all (fun q => !(rsC q.1 q.2.1)) = true := by decide +kernel
theorem rsC_2 : lenT.all (fun q => !(rsC q.1 (-1))) = true := by decide +kernel
theorem rsM_1 : refT.all (fun q => !(rsM q.1 q.2.1)) = true := by decide +kernel
theorem rsM_2 : lenT.all (fun q => !(rsM q.1 (-1))) = true := by decide +kernel
theorem readOne2 {h g : hH} (hL : Lay h) (hg : Lay g) (hT : TapeM h g) (hR : Res0 g) (hP : PI h g) : ∃ b c g', fX2_readStatement h 37 = some (b, c) ∧ fX12_readsOne g 192 = some (b, g') ∧ Fr rsC h c ∧ Fr rsM g g' ∧ g' 192 2 = 0 ∧
    ((b = 0 ∧ FF c g') ∨ (b = 1 ∧ c 1 8 = 0 ∧ g' 192 16 = 0 ∧ LOk (g 194) (fun q => g' 197 (0 + q)) ∧ LinC (g 194) c 0 (fun q => g' 197 (0 + q)))) := by
  -- the class
  have L1 : Lay (hup h 37 2 0) := (Fr.up (C := rsC) (by decide)).lay hL rsC_1 rsC_2
  have t11 : hup h 37 2 0 1 1 = h 1 1 := by rw [hup_off (by decide)]
  obtain ⟨c0, n, K, A, V, E, s1, s2, s3, s4, s5, s6, s7⟩ := start_ok9 (M := 200) L1 t11 hT.2.1 hT.2.2.1 (by decide) (by decide)
  have L3 : Lay c0 := s2.lay L1 tok_lay1 tok_lay2
  have hn1 := s3.1.1
  have SC0 : SC n K A V 0 c0 := ⟨L3, s4, s5, Int.le_refl _, by omega⟩
  have bbh : bB (hup h 37 2 0) = bB h := by funext i; unfold bB; rw [hup_off (by decide)]
  rw [bbh] at s3
  have fc0 : Fr rsC h c0 := (Fr.up (by decide)).tr (s2.mono (fun a b z => by unfold rsC; rw [z]; simp))
  -- the model
  generalize hgg : hup (hup (hup (hup (hup (hup g 192 0 0) 192 3 (g 192 2)) 192 2 0) 192 4 0) 192 5 200) 192 16 0 = g1
  have fg1 : Fr rsM g g1 := by
    rw [← hgg]
    refine (((((Fr.up ?_).tr (Fr.up ?_)).tr (Fr.up ?_)).tr (Fr.up ?_)).tr (Fr.up ?_)).tr (Fr.up ?_) <;> decide
  have Lg1 : Lay g1 := fg1.lay hg rsM_1 rsM_2
  have q3 : g1 192 3 = h 1 1 := by rw [← hgg, hup_ne (by omega), hup_ne (by omega), hup_ne (by omega), hup_ne (by omega), hup_at]; exact hT.1
  have q2 : g1 192 2 = 0 := by rw [← hgg, hup_ne (by omega), hup_ne (by omega), hup_ne (by omega), hup_at]
  have q4 : g1 192 4 = 0 := by rw [← hgg, hup_ne (by omega), hup_ne (by omega), hup_at]
  have q5 : g1 192 5 = 200 := by rw [← hgg, hup_ne (by omega), hup_at]
  have q16 : g1 192 16 = 0 := by rw [← hgg, hup_at]
  have qo : ∀ a, a ≠ 192 → g1 a = g a := fun a ha => by rw [← hgg, hup_off ha, hup_off ha, hup_off ha, hup_off ha, hup_off ha, hup_off ha]
  have MBa : MB (bB h) (h 1 1) 200 g1 := ⟨Lg1, q3, q5, ⟨hT.2.1, hT.2.2.1⟩, by decide, fun i i0 i1 => by
    rw [qo 193 (by decide), hT.2.2.2 i i0 i1]
    exact ⟨rfl, iad255b _⟩⟩
  have tk := s3.2.1 0 (Int.le_refl _) (by omega)
  rw [if_pos rfl] at tk
  obtain ⟨g2, z1, z2, z3, z4, z5⟩ := scan_ok' MBa q4 (Int.le_refl _) tk
  have SM0 : SM (bB h) (h 1 1) 200 n K A V E 0 g2 := ⟨MBa.fr z2, ⟨z3, z4, z5⟩, ⟨by unfold Res0; rw [z2.row 199 (fun b => by unfold nxC; simp), qo 199 (by decide)]; exact hR, by rw [z2 192 16 (by decide)]; exact q16⟩, Int.le_refl _, by omega⟩
  have fg2 : Fr rsM g g2 := fg1.tr (z2.mono (fun a b z => by unfold rsM; rw [tx_ln (nx_tx z)]; rfl))
  have hm : fX12_readsOne g 192 = (fX12_takesStatement g2 192 0).bind fun q23 => if q23.1 = 0 then some (0, q23.2) else if q23.2 192 12 = 0 then fX12_readsOne_b44 q23.2 else (fX12_bad q23.2 192 1).bind fun q38 => if q38.1 = 0 then some (0, q38.2) else fX12_readsOne_b44 q38.2 := by
    unfold fX12_readsOne fX12_taken
    simp only [Option.bind_some, pput]
    rw [show hup g 192 0 0 192 2 = g 192 2 from hup_ne (by omega), hgg, z1]
    rfl
  have g2r : ∀ a, a ≠ 192 → g2 a = g a := fun a ha => by rw [z2.row a (fun b => by unfold nxC; simp; omega), qo a ha]
  have P0 : PI c0 g2 := by
    unfold PI at hP ⊢
    rw [g2r 194 (by decide)]
    refine DR.per hP (Or.inl rfl) (fun a a0 a1 => ?_) (g2r 198 (by decide))
    rw [s2.row a (fun b => by unfold tokC; simp; omega), hup_off (by omega)]
  have hcl : fX2_readStatement h 37 = (fX2_startsStatement c0 (K 0)).bind fun r24 => if r24 = 0 then (fX9_fail c0 1 1).bind fun q35 => some (q35.1, q35.2) else (fX9_step c0 1).bind fun h43 => (fX2_readLine h43 37 (K 0)).bind fun q48 => if q48.1 = 0 then some (0, q48.2) else if q48.2 (q48.2 37 0) 5 = 0 then fX2_readStatement_b75 q48.2 else (fX9_fail q48.2 (q48.2 37 0) 1).bind fun q69 => if q69.1 = 0 then some (0, q69.2) else fX2_readStatement_b75 q69.2 := by
    unfold fX2_readStatement
    simp only [Option.bind_some, pput]
    rw [ly_37_0 L1, s1]
    simp only [Option.bind_some]
    rw [ly_37_0 L3, SC0.k]
  have w2 : ∀ x : hH, Fr lnM g2 x → x 192 2 = 0 := fun x hx => by rw [hx 192 2 (by decide), z2 192 2 (by decide)]; exact q2
  have frM : ∀ x : hH, Fr lnM g2 x → Fr rsM g x := fun x hx => fg2.tr (hx.mono (fun a b z => by unfold rsM; rw [z]; rfl))
  have frC : ∀ x : hH, Fr lnC2 c0 x → Fr rsC h x := fun x hx => fc0.tr (hx.mono (fun a b z => by unfold rsC; rw [z]; rfl))
  by_cases hk : K 0 = 141 ∨ K 0 = 142 ∨ K 0 = 145
  · have e37 : c0 37 2 = 0 := by rw [s2 37 2 (by decide), hup_at]
    obtain ⟨c1, b, b', c', g', k1, k2, k3, k4, k5, k6, k7⟩ := stmt2 (i := 0) (to := 0) s3 (by decide) (by decide) (by decide) (by decide) SC0 SM0 P0 s6 e37 hk
    rw [starts_ok, if_pos hk] at hcl
    simp only [Option.bind_some] at hcl
    rw [if_neg (show ¬ (1 : Int) = 0 by decide), k1] at hcl
    simp only [Option.bind_some] at hcl
    rw [k3] at hcl
    rw [k4] at hm
    simp only [Option.bind_some] at hcl hm
    rw [g2r 194 (by decide)] at k7
    rcases k7 with ⟨rfl, rfl, ff⟩ | ⟨rfl, -, j', S, jj, e8, k7⟩
    · rw [if_pos rfl] at hcl hm
      exact ⟨0, c', g', hcl, hm, frC _ k5, frM _ k6, w2 _ k6, Or.inl ⟨rfl, ff⟩⟩
    · rw [if_neg (show ¬ (1 : Int) = 0 by decide), ly_37_0 S.1, S.k] at hcl
      rcases k7 with ⟨rfl, U, lo, li, -⟩ | ⟨rfl, f, kn, k0⟩
      · rw [if_neg (show ¬ (1 : Int) = 0 by decide)] at hm
        by_cases kz : K j' = 0
        · rw [if_pos kz] at hcl
          rw [if_pos (U.tok.1.mpr kz)] at hm
          exact ⟨1, c', g', hcl, hm, frC _ k5, frM _ k6, w2 _ k6, Or.inr ⟨rfl, e8, U.2.2.1.2, lo, li⟩⟩
        · obtain ⟨c3, f1, f2, f3⟩ := failC (k := 1) S
          obtain ⟨g3, f4, f5, f6⟩ := badM (k := 1) U
          rw [if_neg kz, f1] at hcl
          rw [if_neg (fun z => kz (U.tok.1.mp z)), f4] at hm
          simp only [Option.bind_some, if_true] at hcl hm
          have k6' := k6.tr (f6.mono (fun a b z => tx_ln z))
          exact ⟨0, c3, g3, hcl, hm, frC _ (k5.tr (f3.mono (fun a b z => ln_2 (tk_ln z)))), frM _ k6', w2 _ k6', Or.inl ⟨rfl, 1, A j', f2, f5, by decide⟩⟩
      · obtain ⟨c3, f1, f2, f3⟩ := failC (k := 1) S
        rw [if_neg k0, f1] at hcl
        rw [if_pos rfl] at hm
        simp only [Option.bind_some, if_true] at hcl
        exact ⟨0, c3, g', hcl, hm, frC _ (k5.tr (f3.mono (fun a b z => ln_2 (tk_ln z)))), frM _ k6, w2 _ k6, Or.inl ⟨rfl, 1, A j', f2, f, by decide⟩⟩
  · obtain ⟨c3, f1, f2, f3⟩ := failC (k := 1) SC0
    obtain ⟨g3, f4, f5, f6⟩ := badM (k := 1) SM0
    rw [starts_ok, if_neg hk] at hcl
    simp only [Option.bind_some, if_true] at hcl
    rw [f1] at hcl
    have hst : fX12_takesStatement g2 192 0 = some (0, g3) := by
      unfold fX12_takesStatement
      rw [no_w.2.2.2.1, no_w.2.2.2.2.1, no_w.2.2.2.2.2, isWordM SM0 (by decide) (by decide), isWordM SM0 (by decide) (by decide), isWordM SM0 (by decide) (by decide), f4]
      simp only [Option.bind_some]
      rw [if_neg (show ¬ K 0 = 128 + 13 by omega), if_pos rfl, if_neg (show ¬ K 0 = 128 + 14 by omega), if_pos rfl, if_neg (show ¬ K 0 = 128 + 17 by omega), if_pos rfl]
    rw [hst] at hm
    simp only [Option.bind_some, if_true] at hm
    have k6' : Fr lnM g2 g3 := f6.mono (fun a b z => tx_ln z)
    exact ⟨0, c3, g3, hcl, hm, frC _ (f3.mono (fun a b z => ln_2 (tk_ln z))), frM _ k6', w2 _ k6', Or.inl ⟨rfl, 1, A 0, f2, f5, by decide⟩⟩
