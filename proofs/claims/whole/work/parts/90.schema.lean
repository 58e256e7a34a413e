/-! SCHEMA, BOTH WAYS -/
def scmF (a b : Int) : Bool := lmF2 a b || layC a b || (a == 192 && (b == 0 || b == 2 || b == 3 || b == 4 || b == 5 || b == 16))
theorem scm_1 : refT.all (fun q => !(scmF q.1 q.2.1)) = true := by decide +kernel
theorem scm_2 : lenT.all (fun q => !(scmF q.1 (-1))) = true := by decide +kernel
theorem lm2_scm {a b : Int} (z : lmF2 a b = true) : scmF a b = true := by unfold scmF; rw [z]; rfl
theorem lay_scm {a b : Int} (z : layC a b = true) : scmF a b = true := by unfold scmF; rw [z]; simp
/-- the row of a draft that is empty -/
def row0 (i : Int) : Int := if 8 ≤ i ∧ i < 24 then -1 else 0
def iniC (a b : Int) : Bool := a == 195 && decide (0 ≤ b)
theorem ini_lm {a b : Int} (z : iniC a b = true) : lmF a b = true := by unfold iniC at z; unfold lmF; simp at z ⊢; omega
theorem init195 {g : hH} (hL : Lay g) {P : Int × hH → Prop} (x0 : hH) (hP : ∀ a, Fr iniC g a → (∀ i, 0 ≤ i → i < 148 → a 195 i = row0 i) → ∃ r, fX12_schema_s24 x0 192 (a, 148) = some (.inr r) ∧ P r) : ∃ r, lpO (fX12_schema_s24 x0 192) (g, 0) = some r ∧ P r := by
  refine lpO_invG (f := fX12_schema_s24 x0 192) (fun i (b : hH) => (b, i)) 148 (fun i b => Fr iniC g b ∧ ∀ k, 0 ≤ k → k < i → b 195 k = row0 k) P (fun i b i0 i1 hb => ?_) (fun b hb => hP b hb.1 hb.2) (Int.le_refl _) (by decide) ⟨Fr.rf, fun k k0 k1 => by omega⟩
  obtain ⟨h1, h2⟩ := hb
  have Lb := h1.lay hL (by decide +kernel) (by decide +kernel)
  refine Or.inl ⟨hup b 195 i (row0 i), ?_, h1.tr (Fr.up (by unfold iniC; simp; omega)), fun k k0 k1 => ?_⟩
  · unfold fX12_schema_s24 fX12_schema_b52 fX12_schema_b53
    dsimp only
    rw [if_pos i1, put195 Lb i0 i1, put195 Lb i0 i1, w1 (by omega) (by omega)]
    unfold row0
    by_cases z : i < 8
    · rw [if_pos z, if_neg (by omega)]; rfl
    · rw [if_neg z]
      by_cases y : i < 24
      · rw [if_pos y, if_pos (by omega)]; rfl
      · rw [if_neg y, if_neg (by omega)]; rfl
  · by_cases e : k = i
    · rw [e, hup_at]
    · rw [hup_ne (by omega)]; exact h2 k k0 (by omega)
/-- the class's text as the model reads it -/
def TapeM (c g : hH) : Prop := g 192 2 = c 1 1 ∧ 0 ≤ c 1 1 ∧ c 1 1 ≤ 940 ∧ ∀ i, 0 ≤ i → i < c 1 1 → g 193 i = c 2 i
def sclF (a b : Int) : Bool := lcF2 a b || tokC a b || schC 25 a b
theorem scl_1 : refT.all (fun q => !(sclF q.1 q.2.1)) = true := by decide +kernel
theorem scl_2 : lenT.all (fun q => !(sclF q.1 (-1))) = true := by decide +kernel
theorem draft0 {c g : hH} (hc : Lay c) (e0 : c 25 0 = 0 ∧ c 25 1 = 0 ∧ c 25 2 = 0 ∧ c 25 3 = 0) (e29 : ∀ i, 0 ≤ i → i < 16 → c 29 i = -1) (e30 : ∀ i, 0 ≤ i → i < 16 → c 30 i = 0) (eg : ∀ i, 0 ≤ i → i < 148 → g 195 i = row0 i) : DI c g := by
  have g0 : g 195 0 = 0 ∧ g 195 1 = 0 ∧ g 195 2 = 0 ∧ g 195 3 = 0 := ⟨eg 0 (by decide) (by decide), eg 1 (by decide) (by decide), eg 2 (by decide) (by decide), eg 3 (by decide) (by decide)⟩
  have gd : ∀ i, 0 ≤ i → i < 16 → g 195 (8 + i) = -1 := fun i i0 i1 => by rw [eg _ (by omega) (by omega)]; exact if_pos (by omega)
  have gn : ∀ i, 0 ≤ i → i < 16 → g 195 (24 + i) = 0 := fun i i0 i1 => by rw [eg _ (by omega) (by omega)]; exact if_neg (by omega)
  refine ⟨schAt_25 hc, ⟨⟨by rw [e0.1, g0.1], by rw [e0.2.1, g0.2.1], by rw [e0.2.2.1, g0.2.2.1], by rw [e0.2.2.2, g0.2.2.2]⟩, fun t t0 t1 => by omega, fun i i0 i1 => ?_, fun i i0 i1 => ?_, fun k k0 k1 => by omega, fun f f0 f1 => by omega, fun x x0 x1 => by omega⟩, ⟨by omega, by omega, by omega, by omega, fun t t0 t1 => by omega, fun i i0 i1 => ?_, fun i i0 i1 => Or.inl (gn i i0 i1), fun k k0 k1 => by omega, fun f f0 f1 => by omega, fun x x0 x1 => by omega⟩, ⟨fun t t0 t1 => by omega, fun t k t0 t1 => by omega⟩, Or.inr rfl⟩
  · rw [gd i i0 i1]; exact e29 i i0 i1
  · rw [gn i i0 i1]; exact e30 i i0 i1
  · rw [gd i i0 i1]; omega
/-- the reading of a schema, on two heaps -/
theorem readSchema2 {h g : hH} (hL : Lay h) (hg : Lay g) (hT : TapeM h g) (hR : Res0 g) : ∃ b c r g', fX5_readSchema h 24 = some (b, c) ∧ fX12_schema g 192 = some (r, g') ∧ Fr sclF h c ∧ Fr scmF g g' ∧ g' 192 2 = 0 ∧
    ((b = 0 ∧ ∃ k a, FRc k a c ∧ FRm k a g' ∧ 1 ≤ k ∧ r = w32 (-1 - a) ∧ g' 194 = g 194 ∧ (∀ i, i < 20 → g' 198 i = g 198 i) ∧ g' 192 44 = g 192 44) ∨
     (b = 1 ∧ c 1 8 = 0 ∧ g' 192 16 = 0 ∧ r = c 24 2 ∧ SchR c 25 (g' 194) ∧ SOk (g' 194) ∧ (∀ i, 148 ≤ i → i < 1420 → g' 194 i = 0) ∧ g' 192 44 = 0 ∧
      (∀ t, 0 ≤ t → t < g' 194 0 → WR (c 26 t) (g' 198 t)) ∧ ∀ t k, 0 ≤ t → t < g' 194 0 → 0 ≤ k → k < g' 194 (4 + t) → WR (c 28 (4 * t + k)) (g' 198 (4 + 4 * t + k)))) := by
  -- the class
  obtain ⟨c1, a1, a2, a3, a4, a5⟩ := resetSch_ok hL
  have L1 : Lay c1 := a2.lay hL (by decide +kernel) (by decide +kernel)
  have L2 : Lay (hup c1 24 2 0) := L1.upF (by decide)
  have t11 : hup c1 24 2 0 1 1 = h 1 1 := by rw [hup_off (by decide), a2 1 1 (by decide)]
  obtain ⟨c3, n, K, A, V, E, s1, s2, s3, s4, s5, s6, s7⟩ := start_ok9 (M := 900) L2 t11 hT.2.1 hT.2.2.1 (by decide) (Int.le_refl _)
  have L3 : Lay c3 := s2.lay L2 tok_lay1 tok_lay2
  have hn1 := s3.1.1
  have hcls : fX5_readSchema h 24 = lpO (fX5_readSchema_s22 c3 24) c3 := by
    unfold fX5_readSchema
    rw [ly_24_1 hL, a1]
    simp only [Option.bind_some, pput]
    rw [ly_24_0 L2, s1]
    rfl
  have SC0 : SC n K A V 0 c3 := ⟨L3, s4, s5, Int.le_refl _, by omega⟩
  have r2 : hup c1 24 2 0 2 = h 2 := by rw [hup_off (by decide)]; exact a2.row 2 (fun b => by unfold schC; simp)
  have bbh : bB (hup c1 24 2 0) = bB h := by funext i; unfold bB; rw [r2]
  rw [bbh] at s3
  have c3r : ∀ a, a ≠ 1 → a ≠ 3 → c3 a = hup c1 24 2 0 a := fun a x1 x3 => s2.row a (fun b => by unfold tokC; simp; omega)
  -- the model
  generalize hgg : hup (hup (hup (hup (hup (hup (hup g 192 0 0) 192 3 (g 192 2)) 192 2 0) 192 4 0) 192 5 900) 192 16 0) 192 20 0 = g1
  have hm : fX12_schema g 192 = lpO (fX12_schema_s24 g1 192) (g1, 0) := by
    unfold fX12_schema fX12_taken
    simp only [Option.bind_some, pput]
    rw [show hup g 192 0 0 192 2 = g 192 2 from hup_ne (by omega), hgg]
  have fg1 : Fr scmF g g1 := by
    rw [← hgg]
    refine ((((((Fr.up ?_).tr (Fr.up ?_)).tr (Fr.up ?_)).tr (Fr.up ?_)).tr (Fr.up ?_)).tr (Fr.up ?_)).tr (Fr.up ?_) <;> decide
  have Lg1 : Lay g1 := fg1.lay hg scm_1 scm_2
  have q3 : g1 192 3 = h 1 1 := by rw [← hgg, hup_ne (by omega), hup_ne (by omega), hup_ne (by omega), hup_ne (by omega), hup_ne (by omega), hup_at]; exact hT.1
  have q2 : g1 192 2 = 0 := by rw [← hgg, hup_ne (by omega), hup_ne (by omega), hup_ne (by omega), hup_ne (by omega), hup_at]
  have q4 : g1 192 4 = 0 := by rw [← hgg, hup_ne (by omega), hup_ne (by omega), hup_ne (by omega), hup_at]
  have q5 : g1 192 5 = 900 := by rw [← hgg, hup_ne (by omega), hup_ne (by omega), hup_at]
  have q16 : g1 192 16 = 0 := by rw [← hgg, hup_ne (by omega), hup_at]
  have q20 : g1 192 20 = 0 := by rw [← hgg, hup_at]
  have q44 : g1 192 44 = g 192 44 := by rw [← hgg, hup_ne (by omega), hup_ne (by omega), hup_ne (by omega), hup_ne (by omega), hup_ne (by omega), hup_ne (by omega), hup_ne (by omega)]
  have qo : ∀ a, a ≠ 192 → g1 a = g a := fun a ha => by rw [← hgg, hup_off ha, hup_off ha, hup_off ha, hup_off ha, hup_off ha, hup_off ha, hup_off ha]
  have hP : ∀ a, Fr lmF g1 a → (∀ i, 0 ≤ i → i < 148 → a 195 i = row0 i) → a 192 4 = 0 → a 192 3 = h 1 1 → a 192 5 = 900 → a 192 16 = 0 → a 192 20 = 0 → a 192 2 = 0 → ∃ r, fX12_schema_s24 g1 192 (a, 148) = some (.inr r) ∧ (∃ b c, lpO (fX5_readSchema_s22 c3 24) c3 = some (b, c) ∧ Fr lcF2 c3 c ∧ Fr scmF g r.2 ∧ r.2 192 2 = 0 ∧
      ((b = 0 ∧ ∃ k a, FRc k a c ∧ FRm k a r.2 ∧ 1 ≤ k ∧ r.1 = w32 (-1 - a) ∧ r.2 194 = g 194 ∧ (∀ i, i < 20 → r.2 198 i = g 198 i) ∧ r.2 192 44 = g 192 44) ∨
       (b = 1 ∧ c 1 8 = 0 ∧ r.2 192 16 = 0 ∧ r.1 = c 24 2 ∧ SchR c 25 (r.2 194) ∧ SOk (r.2 194) ∧ (∀ i, 148 ≤ i → i < 1420 → r.2 194 i = 0) ∧ r.2 192 44 = 0 ∧
        (∀ t, 0 ≤ t → t < r.2 194 0 → WR (c 26 t) (r.2 198 t)) ∧ ∀ t k, 0 ≤ t → t < r.2 194 0 → 0 ≤ k → k < r.2 194 (4 + t) → WR (c 28 (4 * t + k)) (r.2 198 (4 + 4 * t + k))))) := fun a fa ha x4 x3 x5 x16 x20 x2 => by
    have La := fa.lay Lg1 lmF_lay1 lmF_lay2
    have ar : ∀ b, b ≠ 192 → b ≠ 195 → b ≠ 198 → a b = g b := fun b b1 b2 b3 => by rw [fa.row b (fun x => by unfold lmF smF txF nxC; simp; omega), qo b b1]
    have MBa : MB (bB h) (h 1 1) 900 a := ⟨La, x3, x5, ⟨hT.2.1, hT.2.2.1⟩, by decide, fun i i0 i1 => by
      rw [ar 193 (by decide) (by decide) (by decide), hT.2.2.2 i i0 i1]
      exact ⟨rfl, iad255b _⟩⟩
    have tk := s3.2.1 0 (Int.le_refl _) (by omega)
    rw [if_pos rfl] at tk
    obtain ⟨g2, z1, z2, z3, z4, z5⟩ := scan_ok' MBa x4 (Int.le_refl _) tk
    have SM0 : SM (bB h) (h 1 1) 900 n K A V E 0 g2 := ⟨MBa.fr z2, ⟨z3, z4, z5⟩, ⟨by unfold Res0; rw [z2.row 199 (fun b => by unfold nxC; simp), ar 199 (by decide) (by decide) (by decide)]; exact hR, by rw [z2 192 16 (by decide)]; exact x16⟩, Int.le_refl _, by omega⟩
    have D0 : DI c3 g2 := draft0 L3 (by rw [c3r 25 (by decide) (by decide), hup_off (by decide)]; exact a3) (by rw [c3r 29 (by decide) (by decide), hup_off (by decide)]; exact a4) (by rw [c3r 30 (by decide) (by decide), hup_off (by decide)]; exact a5) (by rw [z2.row 195 (fun b => by unfold nxC; simp)]; exact ha)
    obtain ⟨b, c, y1, y2, y3⟩ := schemaLoop s3 (Int.le_refl _) c3 g2 n.toNat 0 0 c3 g2 (by omega) SC0 SM0 D0 (by rw [c3r 24 (by decide) (by decide), hup_at]) (by rw [z2 192 20 (by decide)]; exact x20) (Int.le_refl _) (by decide) Fr.rf Fr.rf s6
    have fg2 : Fr lmF2 g1 g2 := (fa.mono (fun a b z => lm_2 z)).tr (z2.mono (fun a b z => lm_2 (tx_lm (nx_tx z))))
    have hstep : ∀ r, lpO (fX12_schema_s64 g2 192) g2 = some r → fX12_schema_s24 g1 192 (a, 148) = some (.inr r) := fun r hr => by
      unfold fX12_schema_s24
      dsimp only
      rw [if_neg (by decide), z1]
      simp only [Option.bind_some]
      rw [hr]
      rfl
    rcases y3 with ⟨rfl, k, a', g', f1, f2, f3, f4, f5⟩ | ⟨rfl, g3, f1, f2, f3, f4, f5, f6, f7⟩
    · have fr := fg2.tr f5
      refine ⟨_, hstep _ f3, 0, c, y1, y2, fg1.tr (fr.mono (fun a b z => lm2_scm z)), ?_, Or.inl ⟨rfl, k, a', f1, f4, f2, rfl, ?_, fun i hi => ?_, ?_⟩⟩
      · dsimp only
        rw [fr 192 2 (by decide)]; exact q2
      · dsimp only
        rw [fr.row 194 (fun b => by unfold lmF2 lmF smF txF nxC; simp)]; exact qo 194 (by decide)
      · dsimp only
        rw [fr 198 i (by unfold lmF2 lmF smF txF nxC; simp; omega), qo 198 (by decide)]
      · dsimp only
        rw [fr 192 44 (by decide)]; exact q44
    · have fr := fg2.tr f2
      obtain ⟨g', l1, l2, l3, l4, l5, l6⟩ := laidM (g := g3) (x0 := g3) f3
      obtain ⟨dA, dR, dS, ⟨n1, n2⟩, -⟩ := f4
      have e194 : ∀ i, 0 ≤ i → i < 148 → g' 194 i = g3 195 i := l3
      refine ⟨_, hstep _ (f1 _ l1), 1, c, y1, y2, fg1.tr ((fr.mono (fun a b z => lm2_scm z)).tr (l2.mono (fun a b z => lay_scm z))), ?_, Or.inr ⟨rfl, f6, ?_, f5.symm, dR.cong e194 dS, dS.cong e194, l4, l6, fun t t0 t1 => ?_, fun t k t0 t1 k0 k1 => ?_⟩⟩
      · dsimp only
        rw [l2 192 2 (by decide), fr 192 2 (by decide)]; exact q2
      · dsimp only
        rw [l2 192 16 (by decide)]; exact f7
      · dsimp only at t1 ⊢
        have b0 := dS.1
        rw [e194 0 (by decide) (by decide)] at t1
        rw [l5 t t0 (by omega)]
        exact n1 t t0 t1
      · dsimp only at t1 k1 ⊢
        have b0 := dS.1
        rw [e194 0 (by decide) (by decide)] at t1
        have bw := dS.2.2.2.2.1 t t0 t1
        rw [e194 (4 + t) (by omega) (by omega)] at k1
        rw [l5 (4 + 4 * t + k) (by omega) (by omega), show 20 + (4 + 4 * t + k) = 20 + 4 + 4 * t + k by omega]
        exact n2 t k t0 t1 k0 k1
  obtain ⟨r, r1, b, c, y1, y2, y3, y4, y5⟩ := init195 Lg1 g1 (fun a fa ha => by
    exact hP a (fa.mono (fun a b z => ini_lm z)) ha (by rw [fa 192 4 (by decide)]; exact q4) (by rw [fa 192 3 (by decide)]; exact q3) (by rw [fa 192 5 (by decide)]; exact q5) (by rw [fa 192 16 (by decide)]; exact q16) (by rw [fa 192 20 (by decide)]; exact q20) (by rw [fa 192 2 (by decide)]; exact q2))
  refine ⟨b, c, r.1, r.2, hcls.trans y1, hm.trans r1, ?_, y3, y4, y5⟩
  have e1 : Fr sclF h c1 := a2.mono (fun a b z => by unfold sclF; rw [z]; simp)
  have e2 : Fr sclF c1 (hup c1 24 2 0) := Fr.up (by decide)
  have e3 : Fr sclF (hup c1 24 2 0) c3 := s2.mono (fun a b z => by unfold sclF; rw [z]; simp)
  have e4 : Fr sclF c3 c := y2.mono (fun a b z => by unfold sclF; rw [z]; rfl)
  exact e1.tr (e2.tr (e3.tr e4))
