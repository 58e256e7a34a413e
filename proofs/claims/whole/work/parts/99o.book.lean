/-! THE CALL book -/
def bsF (a b : Int) : Bool := (a == 217 || a == 218) && decide (0 ≤ b)
theorem bookStart {g : hH} (hL : Lay g) (lv : Int) (x0 : hH) : ∃ g2, Fr bsF g g2 ∧ (∀ i, 0 ≤ i → i < 1091 → g2 218 i = g 194 (148 + i)) ∧ (∀ j, 0 ≤ j → j < 4 → g2 217 j = 0) ∧ ∀ r, (∀ x, lpO (fX12_book_s138 x 192 lv) (g2, -1, 0) = some r) → lpO (fX12_book_s85 x0 192 lv) (g, 0) = some r := by
  have f1 : ∀ i, 0 ≤ i → Fr bsF g (seg g 218 0 i (fun i => g 194 (148 + i))) := fun i _ => seg_fr (fun b b0 => by unfold bsF; simp; exact b0) (Int.le_refl _)
  have bsL : ∀ x, Fr bsF g x → Lay x := fun x hx => hx.lay hL (by decide +kernel) (by decide +kernel)
  generalize hg1 : seg g 218 0 1091 (fun i => g 194 (148 + i)) = g1
  have fg1 : Fr bsF g g1 := by rw [← hg1]; exact f1 1091 (by decide)
  have f2 : ∀ i, 0 ≤ i → Fr bsF g (seg g1 217 0 i (fun _ => 0)) := fun i _ => fg1.tr (seg_fr (fun b b0 => by unfold bsF; simp; exact b0) (Int.le_refl _))
  refine ⟨seg g1 217 0 4 (fun _ => 0), f2 4 (by decide), fun i i0 i1 => ?_, fun j j0 j1 => by rw [seg_in j0 (by omega)], fun r hr => ?_⟩
  · rw [seg_off (by decide), ← hg1, seg_in i0 (by omega), show i - 0 = i by omega]
  · obtain ⟨r2, q1, q2⟩ := cp_loop (f := fX12_book_s85 x0 192 lv) (h := g) 218 0 1091 (fun i => g 194 (148 + i)) (fun r' => r' = r) (by decide) (fun i h' i0 i1 e => by
      have Lx : Lay h' := by rw [e]; exact bsL _ (f1 i i0)
      unfold fX12_book_s85
      dsimp only
      rw [if_pos i1, w32_id (x := 148 + i) (by omega) (by omega), sgk Lx (by omega) (by omega), e, seg_off (a := 194) (by decide)]
      simp only [Option.bind_some]
      rw [← e, ly_192_54 Lx, aput_in i0 (by rw [ll_218 Lx]; exact i1), w1 (by omega) (by omega), Int.zero_add]
      rfl) ⟨r, by
      unfold fX12_book_s85
      dsimp only
      rw [if_neg (by decide), hg1]
      obtain ⟨r3, q3, q4⟩ := cp_loop (f := fX12_book_s116 g1 192 lv) (h := g1) 217 0 4 (fun _ => 0) (fun r' => r' = r) (by decide) (fun i h' i0 i1 e => by
        have Lx : Lay h' := by rw [e]; exact bsL _ (f2 i i0)
        unfold fX12_book_s116
        dsimp only
        rw [if_pos i1, put217 Lx i0 i1, w1 (by omega) (by omega), Int.zero_add]
        rfl) ⟨r, by
        unfold fX12_book_s116
        dsimp only
        rw [if_neg (by decide), hr]
        rfl, rfl⟩
      rw [q3, q4]
      rfl, rfl⟩
    rw [q1, q2]
def bcC (a b : Int) : Bool := rsC a b || beC a b || (a == 1 && b == 1) || stC 65 a b
def bcM (a b : Int) : Bool := rsM a b || lbM a b || beM a b || bsF a b
theorem book2 {h g : hH} {lv : Int} (hlv : lv = 0 ∨ lv = 1) (hT : TapeM h g) (hR0 : Res0 g) (hP : PI h g) (h2 : R2 h g) (hU : U2 h g) : ∃ r c g', fX11_book h 0 lv = some (r, c) ∧ fX12_book g 192 lv = some (r, g') ∧ Fr bcC h c ∧ Fr bcM g g' ∧ c 1 1 = 0 ∧ g' 192 2 = 0 ∧ c 1 8 = g' 192 16 ∧ R2 c g' ∧ U2 c g' ∧ (T2 c g' ∨ (c 76 = h 76 ∧ g' 217 = g 217 ∧ g' 192 55 = g 192 55)) := by
  have hL := h2.1
  have hg := h2.2.1
  -- the class begins
  have L1 : Lay (hup h 37 2 0) := (Fr.up (C := rsC) (by decide)).lay hL rsC_1 rsC_2
  have t11 : hup h 37 2 0 1 1 = h 1 1 := by rw [hup_off (by decide)]
  obtain ⟨c0, n, K, A, V, E, s1, s2, s3, s4, s5, s6, s7⟩ := start_ok9 (M := 400) L1 t11 hT.2.1 hT.2.2.1 (by decide) (by decide)
  have L3 : Lay c0 := s2.lay L1 tok_lay1 tok_lay2
  have hn1 := s3.1.1
  have SC0 : SC n K A V 0 c0 := ⟨L3, s4, s5, Int.le_refl _, by omega⟩
  have bbh : bB (hup h 37 2 0) = bB h := by funext i; unfold bB; rw [hup_off (by decide)]
  rw [bbh] at s3
  have fc0 : Fr rsC h c0 := (Fr.up (by decide)).tr (s2.mono (fun a b z => by unfold rsC; rw [z]; simp))
  -- the model begins
  generalize hgg : hup (hup (hup (hup (hup (hup (hup g 192 0 0) 192 3 (g 192 2)) 192 2 0) 192 4 0) 192 5 400) 192 16 0) 192 52 0 = g1
  have fg1 : Fr bcM g g1 := by
    rw [← hgg]
    refine ((((((Fr.up ?_).tr (Fr.up ?_)).tr (Fr.up ?_)).tr (Fr.up ?_)).tr (Fr.up ?_)).tr (Fr.up ?_)).tr (Fr.up ?_) <;> decide
  have Lg1 : Lay g1 := by
    rw [← hgg]
    exact ((((((hg.upF (by decide)).upF (by decide)).upF (by decide)).upF (by decide)).upF (by decide)).upF (by decide)).upF (by decide)
  have q3 : g1 192 3 = h 1 1 := by rw [← hgg, hup_ne (by omega), hup_ne (by omega), hup_ne (by omega), hup_ne (by omega), hup_ne (by omega), hup_at]; exact hT.1
  have q2 : g1 192 2 = 0 := by rw [← hgg, hup_ne (by omega), hup_ne (by omega), hup_ne (by omega), hup_ne (by omega), hup_at]
  have q4 : g1 192 4 = 0 := by rw [← hgg, hup_ne (by omega), hup_ne (by omega), hup_ne (by omega), hup_at]
  have q5 : g1 192 5 = 400 := by rw [← hgg, hup_ne (by omega), hup_ne (by omega), hup_at]
  have q16 : g1 192 16 = 0 := by rw [← hgg, hup_ne (by omega), hup_at]
  have q52 : g1 192 52 = 0 := by rw [← hgg, hup_at]
  have qb : ∀ b, b ≠ 0 → b ≠ 3 → b ≠ 2 → b ≠ 4 → b ≠ 5 → b ≠ 16 → b ≠ 52 → g1 192 b = g 192 b := fun b a0 a3 a2 a4 a5 a16 a52 => by rw [← hgg, hup_ne (by omega), hup_ne (by omega), hup_ne (by omega), hup_ne (by omega), hup_ne (by omega), hup_ne (by omega), hup_ne (by omega)]
  have qo : ∀ a, a ≠ 192 → g1 a = g a := fun a ha => by rw [← hgg, hup_off ha, hup_off ha, hup_off ha, hup_off ha, hup_off ha, hup_off ha, hup_off ha]
  have MBa : MB (bB h) (h 1 1) 400 g1 := ⟨Lg1, q3, q5, ⟨hT.2.1, hT.2.2.1⟩, by decide, fun i i0 i1 => by
    rw [qo 193 (by decide), hT.2.2.2 i i0 i1]
    exact ⟨rfl, iad255b _⟩⟩
  have tk := s3.2.1 0 (Int.le_refl _) (by omega)
  rw [if_pos rfl] at tk
  obtain ⟨g2, z1, z2, z3, z4, z5⟩ := scan_ok' MBa q4 (Int.le_refl _) tk
  have SM0 : SM (bB h) (h 1 1) 400 n K A V E 0 g2 := ⟨MBa.fr z2, ⟨z3, z4, z5⟩, ⟨by unfold Res0; rw [z2.row 199 (fun b => by unfold nxC; simp), qo 199 (by decide)]; exact hR0, by rw [z2 192 16 (by decide)]; exact q16⟩, Int.le_refl _, by omega⟩
  have fg2 : Fr bcM g g2 := fg1.tr (z2.mono (fun a b z => by unfold bcM rsM; rw [tx_ln (nx_tx z)]; rfl))
  have hm : fX12_book g 192 lv = lpO (fX12_book_s39 g2 192 lv) g2 := by
    unfold fX12_book fX12_taken
    simp only [Option.bind_some, pput]
    rw [isIn_ok]
    simp only [Option.bind_some]
    rw [if_pos (show (0 : Int) ≤ lv ∧ lv ≤ 1 by omega), if_neg (show ¬ (1 : Int) = 0 by decide), show hup g 192 0 0 192 2 = g 192 2 from hup_ne (by omega), hgg, z1]
    rfl
  have g2r : ∀ a, a ≠ 192 → g2 a = g a := fun a ha => by rw [z2.row a (fun b => by unfold nxC; simp; omega), qo a ha]
  have c0r : ∀ a, 4 ≤ a → a < 37 → c0 a = h a := fun a a0 a1 => by rw [s2.row a (fun b => by unfold tokC; simp; omega), hup_off (by omega)]
  have P0 : PI c0 g2 := hP.ln2 (fun a a0 a1 => c0r a a0 (by omega)) (g2r 198 (by decide)) (g2r 194 (by decide))
  have hcl : fX2_readBook h 37 = lpO (fX2_readBook_s17 c0 37) (c0, 0) := by
    unfold fX2_readBook
    simp only [Option.bind_some, pput]
    rw [ly_37_0 L1, s1]
    rfl
  have hbk : fX11_book h 0 lv = fX11_book_b13 h 0 lv := by
    unfold fX11_book
    rcases hlv with rfl | rfl
    · rw [if_pos rfl]
    · rw [if_neg (by decide), if_pos rfl]
  obtain ⟨b, c, y1, Lc, y2, y3⟩ := bookLoop lv s3 (Int.le_refl _) c0 g2 n.toNat 0 0 c0 g2 (by omega) SC0 SM0 P0 (by rw [s2 37 2 (by decide), hup_at]) (by rw [z2 192 52 (by decide)]; exact q52) (Int.le_refl _) (by decide) (by decide) (fun i i0 i1 => by omega) Fr.rf Fr.rf s6
  have Lc1 : Lay (hup c 1 1 0) := Lc.upF (by decide)
  have fc1 : Fr bcC h (hup c 1 1 0) := ((fc0.mono (fun a b z => by unfold bcC; rw [z]; rfl)).tr (y2.mono (fun a b z => by unfold bcC rsC; rw [z]; rfl))).tr (Fr.up (by decide))
  have c1r : ∀ a, 4 ≤ a → a ≠ 37 → a ≠ 38 → hup c 1 1 0 a = h a := fun a a0 a1 a2 => by
    rw [hup_off (by omega), y2.row a (fun b => by unfold lnC2 lnC tkF; simp; omega), s2.row a (fun b => by unfold tokC; simp; omega), hup_off a1]
  have c10 : hup c 1 1 0 0 = h 0 := by
    rw [hup_off (by decide), y2.row 0 (fun b => by unfold lnC2 lnC tkF; simp), s2.row 0 (fun b => by unfold tokC; simp), hup_off (by decide)]
  have hb13 : fX11_book_b13 h 0 lv = if b = 0 then some (w32 (-2 - hup c 1 1 0 1 9), hup c 1 1 0) else (fX8_copyFrom (hup c 1 1 0) 65 13).bind fun h52 => lpO (fX11_book_s63 h52 0 lv) (h52, 0, 0, 0) := by
    unfold fX11_book_b13
    rw [ly_0_6 hL, hcl, y1]
    simp only [Option.bind_some, pput]
    rw [ly_0_0 Lc, ly_0_0 Lc1, ly_0_9 Lc1, ly_0_2 Lc1]
  rcases y3 with ⟨rfl, k, a, g', f1, f2, f3, f4, f5⟩ | ⟨rfl, g3, f1, f2, L3g, f4, f5, f6, f7, f8⟩
  · -- a fault
    have Lg' : Lay g' := f5.lay (SM0.1.1) lbM_1 lbM_2
    have gr : ∀ a, a ≠ 192 → a ≠ 197 → g' a = g a := fun a a1 a2 => by rw [lbM_row f5 a1 a2, g2r a a1]
    refine ⟨_, _, g', by rw [hbk, hb13, if_pos rfl], ?_, fc1, fg2.tr (f5.mono (fun a b z => by unfold bcM; rw [z]; simp)), hup_at, ?_, ?_, ?_, ?_, Or.inr ⟨c1r 76 (by decide) (by decide) (by decide), gr 217 (by decide) (by decide), ?_⟩⟩
    · rw [hm, f3, hup_ne (by omega), f1.2]
    · rw [f5 192 2 (by decide), z2 192 2 (by decide)]; exact q2
    · rw [hup_ne (by omega), f1.1, f4.1]
    · exact h2.of Lc1 Lg' (fun a a0 a1 => c1r a a0 (by omega) (by omega)) (gr 194 (by decide) (by decide))
    · exact hU.of (by rw [c10]) (fun a a0 a1 _ _ => c1r a (by omega) (by omega) (by omega)) (by rw [f5 192 44 (by decide), z2 192 44 (by decide)]; exact qb 44 (by decide) (by decide) (by decide) (by decide) (by decide) (by decide) (by decide)) (gr 212 (by decide) (by decide)) (fun i _ => by rw [gr 194 (by decide) (by decide)])
    · rw [f5 192 55 (by decide), z2 192 55 (by decide)]; exact qb 55 (by decide) (by decide) (by decide) (by decide) (by decide) (by decide) (by decide)
  · rw [if_neg (show ¬ (1 : Int) = 0 by decide)] at hb13
    have g3r : ∀ a, a ≠ 192 → a ≠ 197 → g3 a = g a := fun a a1 a2 => by rw [lbM_row f2 a1 a2, g2r a a1]
    have R3 : R2 (hup c 1 1 0) g3 := h2.of Lc1 L3g (fun a a0 a1 => c1r a a0 (by omega) (by omega)) (g3r 194 (by decide) (by decide))
    obtain ⟨e, e1, e2, e3⟩ := copyState_ok (s := 13) (d := 65) (stAt_13 Lc1) (stAt_65 Lc1) (by decide) R3.2.2.2.2.1
    have Le : Lay e := e3.lay Lc1 (by decide +kernel) (by decide +kernel)
    have er : ∀ a, a < 65 ∨ 73 < a → e a = hup c 1 1 0 a := fun a ha => e3.row a (fun b => by unfold stC rwC; simp; omega)
    obtain ⟨g4, b1, b2, b3, b4⟩ := bookStart L3g lv g3
    have L4 : Lay g4 := b1.lay L3g (by decide +kernel) (by decide +kernel)
    have g4r : ∀ a, a ≠ 217 → a ≠ 218 → g4 a = g3 a := fun a a1 a2 => b1.row a (fun b => by unfold bsF; simp; omega)
    have R4 : R2 e g4 := (R3.c Le (fun a a0 a1 => er a (by omega))).g L4 (g4r 194 (by decide) (by decide))
    have hs4 : SOk (g3 194) := R3.2.2.2.1
    obtain ⟨w, k, wr, c', g', v1, v2, v3, v4, v5, v6, v7, v8, v9, v10⟩ := bookRun (c0 := e) (g0 := g4) lv e g4 f5.2 (g3 192 52).toNat 0 e g4 (by omega) (Int.le_refl _) f5.1 R4 (fun i i0 i1 => (f6 i i0 i1).of hs4 (by rw [er 38 (by decide), hup_off (by decide)]) (g4r 197 (by decide) (by decide)) (fun q _ _ => by rw [g4r 194 (by decide) (by decide)])) (by rw [er 37 (by decide), hup_off (by decide)]; exact f4) (by rw [g4r 192 (by decide) (by decide)]) (b3 0 (by decide) (by decide)) (b3 1 (by decide) (by decide)) Fr.rf Fr.rf
    have cr : ∀ a, a < 13 ∨ (21 < a ∧ a < 52) ∨ 64 < a → c' a = e a := fun a ha => rlC_row v4 ha
    have gr' : ∀ a, 206 < a → a ≠ 217 → a ≠ 218 → g' a = g a := fun a a1 a2 a3 => by rw [bkF_row v5 (by omega), g4r a a2 a3, g3r a (by omega) (by omega)]
    have glo : ∀ i, i < 148 ∨ 1239 ≤ i → g' 194 i = g3 194 i := fun i hi => by rw [v5 194 i (by unfold bkF rlM jmF jmC; simp; omega), g4r 194 (by decide) (by decide)]
    have U3 : U2 c' g' := hU.of (by rw [cr 0 (by decide), er 0 (by decide), c10]) (fun a a0 a1 _ _ => by rw [cr a (by omega), er a (by omega), c1r a (by omega) (by omega) (by omega)]) (by rw [v5 192 44 (by decide), g4r 192 (by decide) (by decide), f2 192 44 (by decide), z2 192 44 (by decide)]; exact qb 44 (by decide) (by decide) (by decide) (by decide) (by decide) (by decide) (by decide)) (gr' 212 (by decide) (by decide) (by decide)) (fun i hi => by rw [glo i (Or.inl hi), g3r 194 (by decide) (by decide)])
    obtain ⟨r, cE, gE, w1', w2', w3', w4', w5', w6', w7'⟩ := bookEnd (X := g3 194) v3 U3 (StH.sameL (fun a a0 a1 => cr a (by omega)) e2) R3.2.2.2.2.2 (fun i i0 i1 => by rw [bkF_row v5 (by omega), b2 i i0 i1]) glo hlv v6 v7 v8 v9 v10
    refine ⟨r, cE, gE, ?_, ?_, ?_, ?_, ?_, ?_, ?_, w3', w4', Or.inl w5'⟩
    · rw [hbk, hb13, e1]
      simp only [Option.bind_some]
      exact v1 _ w1'
    · rw [hm]
      refine f1 _ (b4 _ (fun x => ?_))
      have := v2 _ w2'
      exact this
    · exact fc1.tr ((e3.mono (fun a b z => by unfold bcC; rw [z]; simp)).tr ((v4.mono (fun a b z => by unfold bcC beC; rw [z]; simp)).tr (w6'.mono (fun a b z => by unfold bcC; rw [z]; simp))))
    · exact fg2.tr ((f2.mono (fun a b z => by unfold bcM; rw [z]; simp)).tr ((b1.mono (fun a b z => by unfold bcM; rw [z]; simp)).tr ((v5.mono (fun a b z => by unfold bcM beM; rw [z]; simp)).tr (w7'.mono (fun a b z => by unfold bcM; rw [z]; simp)))))
    · rw [w6' 1 1 (by decide), cr 1 (by decide), er 1 (by decide), hup_at]
    · rw [w7' 192 2 (by decide), v5 192 2 (by decide), g4r 192 (by decide) (by decide), f2 192 2 (by decide), z2 192 2 (by decide)]; exact q2
    · rw [w6' 1 8 (by decide), cr 1 (by decide), er 1 (by decide), hup_ne (by omega), f7, w7' 192 16 (by decide), v5 192 16 (by decide), g4r 192 (by decide) (by decide), f8]
theorem R2.one {c g : hH} (h : R2 c g) (e : ∀ a, a < 192 → g a = c a) : SchI g ∧ StI g := ⟨⟨SchR.rows (fun k k0 k1 => e _ (by omega)) h.2.2.1, h.2.2.2.1⟩, ⟨StH.sameL (fun a a0 a1 => e a (by omega)) h.2.2.2.2.1, h.2.2.2.2.2⟩⟩
theorem U2.one {c g : hH} (h : U2 c g) (e : ∀ a, a < 192 → g a = c a) : UndI g := by
  have h' : U2 g g := h.of (by rw [e 0 (by decide)]) (fun a a0 a1 _ _ => e a (by omega)) rfl rfl (fun _ _ => rfl)
  exact h'
theorem bcC_row {h c : hH} (hf : Fr bcC h c) {a : Int} (ha : 191 < a) : c a = h a := hf.row a (fun b => by unfold bcC rsC lnC2 lnC tkF tokC beC rlC jugC undC stC rwC; simp; omega)
theorem bcM_row {g g' : hH} (hf : Fr bcM g g') {a : Int} (ha : a < 192) : g' a = g a := hf.row a (fun b => by unfold bcM rsM lbM lnM txF nxC beM bkF rlM jmF jmC stM bsF; simp; omega)
theorem book_ok {h : hH} (hL : Lay h) (hT : TapeR h) (hR : Res0 h) (h1 : SchI h) (h2 : StI h) (h3 : UndI h) (hn : NamR h h 4 0 (h 194)) (hTo : TolI h) (hF : FauI h) (lv : Int) : ∃ r k e, fX11_book h 0 lv = some (r, k) ∧ fX12_book k 192 lv = some (r, e) ∧ Lay e ∧ Fr (fun a b => bcC a b || bcM a b) h e ∧ TapeR e ∧ FauI e ∧ StI e ∧ UndI e ∧ TolI e := by
  by_cases hlv : lv = 0 ∨ lv = 1
  · have hP := PI.of hL h1 hn
    have R0 : R2 h h := ⟨hL, hL, h1.1, h1.2, h2.1, h2.2⟩
    obtain ⟨r, k, -, a1, -, a3, -⟩ := book2 hlv hT hR hP R0 h3
    have kr : ∀ a, 191 < a → k a = h a := fun a ha => bcC_row a3 ha
    have fac : ∀ P : Prop, (Lay k → P) → P := fun P hp => by
      obtain ⟨r', k', g', b1, b2, b3, b4, b5, b6, b7, b8, b9, b10⟩ := book2 hlv hT hR hP R0 h3
      have ee := a1.symm.trans b1
      have e1 : r = r' ∧ k = k' := by injection ee with x; injection x with x y; exact ⟨x, y⟩
      exact hp (by rw [e1.2]; exact b8.1)
    refine fac _ (fun Lk => ?_)
    have Rk : R2 h k := R0.g Lk (kr 194 (by decide))
    have Uk : U2 h k := U2.of h3 rfl (fun _ _ _ _ _ => rfl) (by rw [kr 192 (by decide)]) (kr 212 (by decide)) (fun i _ => by rw [kr 194 (by decide)])
    obtain ⟨r', k', g', b1, b2, b3, b4, b5, b6, b7, b8, b9, b10⟩ := book2 (g := k) hlv ⟨by rw [kr 192 (by decide)]; exact hT.1, hT.2.1, hT.2.2.1, fun i i0 i1 => by rw [kr 193 (by decide)]; exact hT.2.2.2 i i0 i1⟩ (by unfold Res0; rw [kr 199 (by decide)]; exact hR) (hP.ln2 (fun _ _ _ => rfl) (kr 198 (by decide)) (kr 194 (by decide))) Rk Uk
    have ee := a1.symm.trans b1
    have e1 : r = r' ∧ k = k' := by injection ee with x; injection x with x y; exact ⟨x, y⟩
    obtain ⟨rfl, rfl⟩ := e1
    have gk : ∀ a, a < 192 → g' a = k a := fun a ha => bcM_row b4 ha
    obtain ⟨s1, s2⟩ := b8.one gk
    refine ⟨r, k, g', b1, b2, b8.2.1, (b3.mono (fun a b z => by rw [z]; rfl)).tr (b4.mono (fun a b z => by rw [z]; simp)), ?_, ?_, s2, b9.one gk, ?_⟩
    · unfold TapeR
      rw [gk 1 (by decide), b5, b6]
      exact ⟨rfl, Int.le_refl _, by decide, fun i i0 i1 => by omega⟩
    · unfold FauI
      rw [gk 1 (by decide)]
      exact b7
    · unfold TolI
      rw [gk 76 (by decide)]
      rcases b10 with ⟨t1, t2⟩ | ⟨t1, t2, t3⟩
      · exact Or.inr ⟨t1, t2⟩
      · rw [t1, t2, t3, kr 217 (by decide), kr 192 (by decide)]
        exact hTo
  · refine ⟨-1000, h, Th h, ?_, ?_, th_lay hL, th_fr.mono (fun a b z => by
      simp only [Bool.and_eq_true, beq_iff_eq] at z
      rw [z.1, z.2]
      decide), ?_, ?_, th_st h2, ?_, ?_⟩
    · unfold fX11_book
      rw [if_neg (by omega), if_neg (by omega)]
    · unfold fX12_book
      rw [th_p]
      simp only [Option.bind_some]
      rw [isIn_ok]
      simp only [Option.bind_some]
      rw [if_neg (show ¬ ((0 : Int) ≤ lv ∧ lv ≤ 1) by omega), if_pos rfl]
    · unfold TapeR
      rw [th_ne (by decide), th_off (a := 1) (by decide), th_off (a := 193) (by decide), th_off (a := 2) (by decide)]
      exact hT
    · unfold FauI
      rw [th_ne (by decide), th_off (a := 1) (by decide)]
      exact hF
    · exact h3.of (by rw [th_off (by decide)]) (fun a a0 a1 => th_off (by omega)) (th_ne (by decide)) (th_off (by decide)) (fun i _ => by rw [th_off (by decide)]) h1.2.1.2
    · unfold TolI
      rw [th_ne (by decide), th_off (a := 76) (by decide), th_off (a := 217) (by decide)]
      exact hTo
