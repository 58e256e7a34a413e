/-! THE CALL sentence -/
def snF (d a b : Int) : Bool := (a == d && decide (0 ≤ b) && decide (b ≤ 2)) || (a == d + 1 && decide (0 ≤ b))
theorem copySen_ok {h : hH} {s d : Int} (s3 : h s 3 = s + 1) (d3 : h d 3 = d + 1) (ls : h (s + 1) (-1) = 120) (ld : h (d + 1) (-1) = 120) (hn : s ≠ d ∧ s + 1 ≠ d ∧ d + 1 ≠ s) : ∃ h', fX6_copyFrom h d s = some h' ∧ Fr (snF d) h h' ∧ (h' d 0 = h s 0 ∧ h' d 1 = h s 1 ∧ h' d 2 = h s 2) ∧ ∀ j, 0 ≤ j → j < 120 → h' (d + 1) j = h (s + 1) j := by
  obtain ⟨n1, n2, n3⟩ := hn
  have e1 : hup h d 0 (h s 0) s 1 = h s 1 := by rw [hup_off n1]
  have e2 : hup (hup h d 0 (h s 0)) d 1 (h s 1) s 2 = h s 2 := by rw [hup_off n1, hup_off n1]
  unfold fX6_copyFrom
  simp only [pput, Option.bind_some]
  rw [e1, e2]
  have f0 : Fr (snF d) h (hup (hup (hup h d 0 (h s 0)) d 1 (h s 1)) d 2 (h s 2)) := by
    refine ((Fr.up ?_).tr (Fr.up ?_)).tr (Fr.up ?_) <;> unfold snF <;> simp
  have go : ∀ a, a ≠ d → hup (hup (hup h d 0 (h s 0)) d 1 (h s 1)) d 2 (h s 2) a = h a := fun a ha => by rw [hup_off ha, hup_off ha, hup_off ha]
  have gv : hup (hup (hup h d 0 (h s 0)) d 1 (h s 1)) d 2 (h s 2) d 0 = h s 0 ∧ hup (hup (hup h d 0 (h s 0)) d 1 (h s 1)) d 2 (h s 2) d 1 = h s 1 ∧ hup (hup (hup h d 0 (h s 0)) d 1 (h s 1)) d 2 (h s 2) d 2 = h s 2 ∧ hup (hup (hup h d 0 (h s 0)) d 1 (h s 1)) d 2 (h s 2) d 3 = h d 3 := ⟨by rw [hup_ne (by omega), hup_ne (by omega), hup_at], by rw [hup_ne (by omega), hup_at], hup_at, by rw [hup_ne (by omega), hup_ne (by omega), hup_ne (by omega)]⟩
  generalize hup (hup (hup h d 0 (h s 0)) d 1 (h s 1)) d 2 (h s 2) = g at f0 go gv
  rw [go s n1, s3, gv.2.2.2, d3, (copy_seg (h := g) (s := s + 1) (d := d + 1) (m := 120) (by rw [go _ n2]; exact ls) (by rw [go _ (by omega)]; exact ld) (by decide)).1]
  refine ⟨_, rfl, f0.tr (seg_fr2 (fun b b0 b1 => by unfold snF; simp; omega)), ⟨by rw [seg_off (by omega)]; exact gv.1, by rw [seg_off (by omega)]; exact gv.2.1, by rw [seg_off (by omega)]; exact gv.2.2.1⟩, fun j j0 j1 => ?_⟩
  rw [seg_in j0 (by omega), go _ n2, show j - 0 = j by omega]
def SenR (c : hH) (p : Int) (S : Int → Int) : Prop := (c p 0 = 0 ∧ S 1239 = 0) ∨ ∃ γ : List CT, 1 ≤ γ.length ∧ γ.length ≤ 40 ∧ WFr γ 0 1 ∧ c p 0 = 1 ∧ c p 2 = γ.length ∧ S 1239 = γ.length ∧ ∀ (i : Nat) (x : CT), γ[i]? = some x → (c (p + 1) (3 * i) = (clsT x).1 ∧ c (p + 1) (3 * i + 1) = (clsT x).2.1 ∧ c (p + 1) (3 * i + 2) = (clsT x).2.2) ∧ S (1240 + 3 * i) = x.1 ∧ S (1240 + 3 * i + 1) = x.2.1 ∧ S (1240 + 3 * i + 2) = x.2.2
theorem SenR.cp {c c' : hH} {p p' : Int} {S S' : Int → Int} (h : SenR c p S) (e0 : c' p' 0 = c p 0) (e2 : c' p' 2 = c p 2) (e : ∀ j, 0 ≤ j → j < 120 → c' (p' + 1) j = c (p + 1) j) (es : ∀ i, 1239 ≤ i → i < 1360 → S' i = S i) : SenR c' p' S' := by
  rcases h with ⟨h1, h2⟩ | ⟨γ, g1, g2, g3, g4, g5, g6, g7⟩
  · exact Or.inl ⟨e0.trans h1, by rw [es _ (by decide) (by decide)]; exact h2⟩
  · refine Or.inr ⟨γ, g1, g2, g3, e0.trans g4, e2.trans g5, by rw [es _ (by decide) (by decide)]; exact g6, fun i x hx => ?_⟩
    have hi := (List.getElem?_eq_some_iff.mp hx).1
    obtain ⟨⟨a1, a2, a3⟩, b1, b2, b3⟩ := g7 i x hx
    rw [e _ (by omega) (by omega), e _ (by omega) (by omega), e _ (by omega) (by omega), es _ (by omega) (by omega), es _ (by omega) (by omega), es _ (by omega) (by omega)]
    exact ⟨⟨a1, a2, a3⟩, b1, b2, b3⟩
def seC (a b : Int) : Bool := snC a b || tokC a b || (a == 35 && decide (0 ≤ b) && decide (b ≤ 2)) || (a == 1 && b == 1) || snF 22 a b
def seM (a b : Int) : Bool := snM a b || (a == 192 && (b == 0 || b == 2 || b == 3 || b == 4 || b == 5 || b == 16)) || (a == 194 && decide (1239 ≤ b))
theorem seC_1 : refT.all (fun q => !(seC q.1 q.2.1)) = true := by decide +kernel
theorem seC_2 : lenT.all (fun q => !(seC q.1 (-1))) = true := by decide +kernel
theorem seM_1 : refT.all (fun q => !(seM q.1 q.2.1)) = true := by decide +kernel
theorem seM_2 : lenT.all (fun q => !(seM q.1 (-1))) = true := by decide +kernel
theorem seC_row {h c : hH} (hf : Fr seC h c) {a : Int} (ha : 36 < a ∨ (3 < a ∧ a < 22) ∨ (23 < a ∧ a < 35) ∨ a = 0 ∨ a = 2) : c a = h a := hf.row a (fun b => by unfold seC snC tkF tokC snF; simp; omega)
theorem seM_row {g g' : hH} (hf : Fr seM g g') {a : Int} (ha : a < 192 ∨ a = 193 ∨ a = 195 ∨ a = 197 ∨ a = 198 ∨ a = 199 ∨ (199 < a ∧ a ≠ 219)) : g' a = g a := hf.row a (fun b => by unfold seM snM txF nxC; simp; omega)
/-- the model lays its codes down -/
theorem layCodes {g x0 : hH} {γ : List CT} {w o : Int} (hL : Lay g) (hK : KX g γ [] w o) (hl : γ.length ≤ 40) : ∃ g', fX12_sentence_s48 x0 192 (g, 0) = some (.inr (o, g')) ∧ Lay g' ∧ Fr seM g g' ∧ (∀ i, i < 1239 → g' 194 i = g 194 i) ∧ g' 194 1239 = γ.length ∧ (∀ (i : Nat) (x : CT), γ[i]? = some x → g' 194 (1240 + 3 * i) = x.1 ∧ g' 194 (1240 + 3 * i + 1) = x.2.1 ∧ g' 194 (1240 + 3 * i + 2) = x.2.2) ∧ (∀ a, a ≠ 194 → g' a = g a) := by
  obtain ⟨k1, k2, k3, k4, k5, k6⟩ := hK
  have L1 : Lay (hup g 194 1239 γ.length) := hL.upA (by decide) (by decide)
  have lay : ∀ i, Lay (seg (hup g 194 1239 γ.length) 194 1240 i (g 196)) := fun i => lay_seg194 L1 (by decide)
  obtain ⟨r, r1, r2⟩ := cp_loop (f := fX12_sentence_s146 (hup g 194 1239 γ.length) 192) (h := hup g 194 1239 γ.length) 194 1240 (3 * γ.length) (g 196) (fun r => r = (o, seg (hup g 194 1239 γ.length) 194 1240 (3 * γ.length) (g 196))) (by omega) (fun i h' i0 i1 e => by
    have Lx : Lay h' := by rw [e]; exact lay i
    have e192 : h' 192 = g 192 := by rw [e, seg_off (by decide), hup_off (by decide)]
    unfold fX12_sentence_s146
    dsimp only
    rw [show h' 192 57 = (γ.length : Int) by rw [e192]; exact k1, w32_id (x := 3 * (γ.length : Int)) (by omega) (by omega), if_pos i1, ly_192_8 Lx, aget_in i0 (by rw [ll_196 Lx]; omega), e, seg_off (a := 196) (by decide), hup_off (a := 196) (by decide)]
    simp only [Option.bind_some]
    rw [← e, w32_id (x := 1240 + i) (by omega) (by omega), aup_s Lx (by omega) (by omega), w1 (by omega) (by omega)]
    rfl) ⟨_, by
    unfold fX12_sentence_s146
    dsimp only
    rw [show seg (hup g 194 1239 γ.length) 194 1240 (3 * γ.length) (g 196) 192 = g 192 by rw [seg_off (by decide), hup_off (by decide)], k1, w32_id (x := 3 * (γ.length : Int)) (by omega) (by omega), if_neg (by omega), k6], rfl⟩
  refine ⟨seg (hup g 194 1239 γ.length) 194 1240 (3 * γ.length) (g 196), ?_, lay (3 * γ.length), ?_, fun i hi => ?_, ?_, fun i x hx => ?_, fun a ha => by rw [seg_off ha, hup_off ha]⟩
  · unfold fX12_sentence_s48
    dsimp only
    rw [if_pos (show (0 : Int) = 0 from rfl), k1, aup_s hL (by decide) (by decide)]
    simp only [Option.bind_some]
    rw [r1, r2]
    rfl
  · exact (Fr.up (by decide)).tr (seg_fr2 (fun b b0 b1 => by unfold seM; simp; omega))
  · rw [seg_out (by omega), hup_ne (by omega)]
  · rw [seg_out (by omega), hup_at]
  · have hi := (List.getElem?_eq_some_iff.mp hx).1
    obtain ⟨a1, a2, a3⟩ := k2 i x hx
    rw [seg_in (by omega) (by omega), seg_in (by omega) (by omega), seg_in (by omega) (by omega), show 1240 + 3 * (i : Int) - 1240 = 3 * i by omega, show 1240 + 3 * (i : Int) + 1 - 1240 = 3 * i + 1 by omega, show 1240 + 3 * (i : Int) + 2 - 1240 = 3 * i + 2 by omega]
    exact ⟨a1, a2, a3⟩
theorem sentence2 {h g : hH} (hL : Lay h) (hg : Lay g) (hT : TapeM h g) (hR0 : Res0 g) (hP : PI h g) (hS : SenR h 22 (g 194)) : ∃ r c g', fX11_sentence h 0 = some (r, c) ∧ fX12_sentence g 192 = some (r, g') ∧ Lay c ∧ Lay g' ∧ Fr seC h c ∧ Fr seM g g' ∧ c 1 1 = 0 ∧ g' 192 2 = 0 ∧ c 1 8 = g' 192 16 ∧ SenR c 22 (g' 194) ∧ ∀ i, i < 1239 → g' 194 i = g 194 i := by
  -- the class begins
  have L1 : Lay (hup (hup (hup (hup h 35 0 0) 35 1 0) 35 2 0) 35 0 1) := (((hL.upF (by decide)).upF (by decide)).upF (by decide)).upF (by decide)
  have f1 : Fr seC h (hup (hup (hup (hup h 35 0 0) 35 1 0) 35 2 0) 35 0 1) := (((Fr.up (by decide)).tr (Fr.up (by decide))).tr (Fr.up (by decide))).tr (Fr.up (by decide))
  have v35 : hup (hup (hup (hup h 35 0 0) 35 1 0) 35 2 0) 35 0 1 35 0 = 1 ∧ hup (hup (hup (hup h 35 0 0) 35 1 0) 35 2 0) 35 0 1 35 1 = 0 ∧ hup (hup (hup (hup h 35 0 0) 35 1 0) 35 2 0) 35 0 1 35 2 = 0 := ⟨hup_at, by rw [hup_ne (by omega), hup_ne (by omega), hup_at], by rw [hup_ne (by omega), hup_at]⟩
  have o35 : ∀ a, a ≠ 35 → hup (hup (hup (hup h 35 0 0) 35 1 0) 35 2 0) 35 0 1 a = h a := fun a ha => by rw [hup_off ha, hup_off ha, hup_off ha, hup_off ha]
  have hrs : fX7_readSentence h 34 = (fX9_start (hup (hup (hup (hup h 35 0 0) 35 1 0) 35 2 0) 35 0 1) 1 200).bind fun h22 => (fX7_readCond (fX7_readOne 10) h22 34 1).bind fun q27 => if q27.1 = 0 then some (0, q27.2) else if q27.2 (q27.2 34 0) 5 = 0 then fX7_readSentence_b54 q27.2 else (fX9_fail q27.2 (q27.2 34 0) 1).bind fun q48 => if q48.1 = 0 then some (0, q48.2) else fX7_readSentence_b54 q48.2 := by
    unfold fX7_readSentence fX6_reset
    rw [ly_34_2 hL]
    simp only [pput, Option.bind_some]
    rw [ly_34_2 (((hL.upF (k := 35) (j := 0) (v := 0) (by decide)).upF (k := 35) (j := 1) (v := 0) (by decide)).upF (k := 35) (j := 2) (v := 0) (by decide)), ly_34_0 L1]
  generalize hup (hup (hup (hup h 35 0 0) 35 1 0) 35 2 0) 35 0 1 = h1 at L1 f1 v35 o35 hrs
  have t11 : h1 1 1 = h 1 1 := by rw [o35 1 (by decide)]
  obtain ⟨c0, n, K, A, V, E, s1, s2, s3, s4, s5, s6, s7⟩ := start_ok9 (M := 200) L1 t11 hT.2.1 hT.2.2.1 (by decide) (by decide)
  have L3 : Lay c0 := s2.lay L1 tok_lay1 tok_lay2
  have hn1 := s3.1.1
  have SC0 : SC n K A V 0 c0 := ⟨L3, s4, s5, Int.le_refl _, by omega⟩
  have bbh : bB h1 = bB h := by funext i; unfold bB; rw [o35 2 (by decide)]
  rw [bbh] at s3
  rw [s1] at hrs
  simp only [Option.bind_some] at hrs
  have fc0 : Fr seC h c0 := f1.tr (s2.mono (fun a b z => by unfold seC; rw [z]; simp))
  have c0r : ∀ a, a ≠ 1 → a ≠ 3 → c0 a = h1 a := fun a a1 a3 => s2.row a (fun b => by unfold tokC; simp; omega)
  -- the model begins
  generalize hgg : hup (hup (hup (hup (hup (hup (hup (hup (hup (hup (hup g 192 0 0) 192 3 (g 192 2)) 192 2 0) 192 4 0) 192 5 200) 192 16 0) 192 57 0) 192 58 0) 192 59 0) 192 60 1) 192 61 0 = g1
  have fg1 : Fr seM g g1 := by
    rw [← hgg]
    refine ((((((((((Fr.up ?_).tr (Fr.up ?_)).tr (Fr.up ?_)).tr (Fr.up ?_)).tr (Fr.up ?_)).tr (Fr.up ?_)).tr (Fr.up ?_)).tr (Fr.up ?_)).tr (Fr.up ?_)).tr (Fr.up ?_)).tr (Fr.up ?_) <;> decide
  have Lg1 : Lay g1 := fg1.lay hg seM_1 seM_2
  have q3 : g1 192 3 = h 1 1 := by rw [← hgg, hup_ne (by omega), hup_ne (by omega), hup_ne (by omega), hup_ne (by omega), hup_ne (by omega), hup_ne (by omega), hup_ne (by omega), hup_ne (by omega), hup_ne (by omega), hup_at]; exact hT.1
  have q2 : g1 192 2 = 0 := by rw [← hgg, hup_ne (by omega), hup_ne (by omega), hup_ne (by omega), hup_ne (by omega), hup_ne (by omega), hup_ne (by omega), hup_ne (by omega), hup_ne (by omega), hup_at]
  have q4 : g1 192 4 = 0 := by rw [← hgg, hup_ne (by omega), hup_ne (by omega), hup_ne (by omega), hup_ne (by omega), hup_ne (by omega), hup_ne (by omega), hup_ne (by omega), hup_at]
  have q5 : g1 192 5 = 200 := by rw [← hgg, hup_ne (by omega), hup_ne (by omega), hup_ne (by omega), hup_ne (by omega), hup_ne (by omega), hup_ne (by omega), hup_at]
  have q16 : g1 192 16 = 0 := by rw [← hgg, hup_ne (by omega), hup_ne (by omega), hup_ne (by omega), hup_ne (by omega), hup_ne (by omega), hup_at]
  have q57 : g1 192 57 = 0 ∧ g1 192 58 = 0 ∧ g1 192 59 = 0 ∧ g1 192 60 = 1 ∧ g1 192 61 = 0 := by
    rw [← hgg]
    exact ⟨by rw [hup_ne (by omega), hup_ne (by omega), hup_ne (by omega), hup_ne (by omega), hup_at], by rw [hup_ne (by omega), hup_ne (by omega), hup_ne (by omega), hup_at], by rw [hup_ne (by omega), hup_ne (by omega), hup_at], by rw [hup_ne (by omega), hup_at], hup_at⟩
  have qo : ∀ a, a ≠ 192 → g1 a = g a := fun a ha => by rw [← hgg, hup_off ha, hup_off ha, hup_off ha, hup_off ha, hup_off ha, hup_off ha, hup_off ha, hup_off ha, hup_off ha, hup_off ha, hup_off ha]
  have MBa : MB (bB h) (h 1 1) 200 g1 := ⟨Lg1, q3, q5, ⟨hT.2.1, hT.2.2.1⟩, by decide, fun i i0 i1 => by
    rw [qo 193 (by decide), hT.2.2.2 i i0 i1]
    exact ⟨rfl, iad255b _⟩⟩
  have tk := s3.2.1 0 (Int.le_refl _) (by omega)
  rw [if_pos rfl] at tk
  obtain ⟨g2, z1, z2, z3, z4, z5⟩ := scan_ok' MBa q4 (Int.le_refl _) tk
  have SM0 : SM (bB h) (h 1 1) 200 n K A V E 0 g2 := ⟨MBa.fr z2, ⟨z3, z4, z5⟩, ⟨by unfold Res0; rw [z2.row 199 (fun b => by unfold nxC; simp), qo 199 (by decide)]; exact hR0, by rw [z2 192 16 (by decide)]; exact q16⟩, Int.le_refl _, by omega⟩
  have fg2 : Fr seM g g2 := fg1.tr (z2.mono (fun a b z => by unfold seM; rw [tx_sn (nx_tx z)]; rfl))
  have hm : fX12_sentence g 192 = lpO (fX12_sentence_s48 g2 192) (g2, 1) := by
    unfold fX12_sentence fX12_taken
    simp only [Option.bind_some, pput]
    rw [show hup g 192 0 0 192 2 = g 192 2 from hup_ne (by omega), hgg, z1]
    rfl
  have g2r : ∀ a, a ≠ 192 → g2 a = g a := fun a ha => by rw [z2.row a (fun b => by unfold nxC; simp; omega), qo a ha]
  have P0 : PI c0 g2 := hP.ln2 (fun a a0 a1 => by rw [c0r a (by omega) (by omega), o35 a (by omega)]) (g2r 198 (by decide)) (g2r 194 (by decide))
  have g2b : ∀ b, 57 ≤ b → b ≤ 61 → g2 192 b = g1 192 b := fun b b0 b1 => z2 192 b (by unfold nxC; simp; omega)
  have hSF : SF (bB h) (h 1 1) 200 n K A V E 0 c0 g2 [] [] 1 0 := ⟨SC0, SM0, P0, ⟨by rw [c0r 35 (by decide) (by decide)]; exact v35.2.2, by rw [c0r 35 (by decide) (by decide)]; exact v35.2.1, fun i x hx => by simp at hx⟩, ⟨by rw [g2b 57 (by decide) (by decide)]; exact q57.1, fun i x hx => by simp at hx, by rw [g2b 59 (by decide) (by decide)]; exact q57.2.2.1, fun i x hx => by simp at hx, by rw [g2b 60 (by decide) (by decide)]; exact q57.2.2.2.1, by rw [g2b 58 (by decide) (by decide)]; exact q57.2.1⟩, by rw [g2b 61 (by decide) (by decide)]; exact q57.2.2.2.2, s6, by decide, by decide, by decide⟩
  obtain ⟨b, c, y1, yL, y2, y3⟩ := condQ (x0 := g2) s3 (Int.le_refl _) (oneAll (x0 := g2) s3 (Int.le_refl _) 10 1 (by decide) (by decide) (by decide)) 0 c0 g2 [] [] 0 hSF nTop_nil
  rw [y1] at hrs
  simp only [Option.bind_some] at hrs
  have c035 : c0 35 0 = 1 := by rw [c0r 35 (by decide) (by decide)]; exact v35.1
  -- both fail
  have fails : ∀ c' : hH, fX7_readSentence h 34 = some (0, c') → Lay c' → Fr snC c0 c' → FLD g2 g2 c' → ∃ r c g', fX11_sentence h 0 = some (r, c) ∧ fX12_sentence g 192 = some (r, g') ∧ Lay c ∧ Lay g' ∧ Fr seC h c ∧ Fr seM g g' ∧ c 1 1 = 0 ∧ g' 192 2 = 0 ∧ c 1 8 = g' 192 16 ∧ SenR c 22 (g' 194) ∧ ∀ i, i < 1239 → g' 194 i = g 194 i := fun c' hr Lc' fc hf => by
    obtain ⟨k, a, g', h1', h2', h3', h4', h5'⟩ := hf
    have L4 : Lay (hup c' 1 1 0) := Lc'.upF (by decide)
    have r194 : g' 194 = g 194 := by rw [snM_row h4' (by decide) (by decide) (by decide), g2r 194 (by decide)]
    have Fc : Fr seC h (hup c' 1 1 0) := (fc0.tr (fc.mono (fun a b z => by unfold seC; rw [z]; rfl))).tr (Fr.up (by decide))
    have cr : ∀ a, a = 22 ∨ a = 23 → hup c' 1 1 0 a = h a := fun a ha => by rw [hup_off (by omega), snC_row fc (by omega) (by omega) (by omega), c0r a (by omega) (by omega), o35 a (by omega)]
    refine ⟨_, hup c' 1 1 0, g', ?_, hm.trans h5', L4, (h4'.lay SM0.1.1 snM_1 snM_2), Fc, fg2.tr (h4'.mono (fun a b z => by unfold seM; rw [z]; rfl)), hup_at, ?_, ?_, ?_, fun i _ => by rw [r194]⟩
    · unfold fX11_sentence
      rw [ly_0_5 hL, hr]
      simp only [Option.bind_some, pput, if_true]
      rw [ly_0_0 Lc', ly_0_0 L4, hup_ne (by omega), h1'.2]
    · rw [h4' 192 2 (by decide), z2 192 2 (by decide)]; exact q2
    · rw [hup_ne (by omega), h1'.1, h2'.1]
    · rw [r194]
      exact hS.cp (by rw [cr 22 (by omega)]) (by rw [cr 22 (by omega)]) (fun j _ _ => by rw [cr (22 + 1) (by omega)]) (fun _ _ _ => rfl)
  rcases y3 with ⟨rfl, hf⟩ | ⟨rfl, j', g3, γ, o, O, Q, jj, ex, hw, hk1, hk2, fm, hr⟩
  · rw [if_pos rfl] at hrs
    exact fails c hrs yL y2 hf
  · rw [if_neg (show ¬ (1 : Int) = 0 by decide), ly_34_0 yL, hw.sc.1.k] at hrs
    obtain ⟨hcC, hD, e8, hPw⟩ := hw.sc
    by_cases kz : K j' = 0
    · rw [if_pos kz] at hrs
      unfold fX7_readSentence_b54 at hrs
      obtain ⟨g4, b1, b2, b3, b4, b5, b6⟩ := beh_else hw hk1 hk2 nTop_nil
      have hlen := hw.len
      have hsw := hw
      obtain ⟨γ0, k, w1', w2', w3', w4', w5', w6', w7', w8', w9', w10', w11', w12', w13'⟩ := hsw
      have hs1 : fX12_sentence_s48 g2 192 (g3, 1) = some (.inl (g4, 0)) := by
        unfold fX12_sentence_s48
        dsimp only
        rw [if_neg (show ¬ (1 : Int) = 0 by decide), w7', if_neg (show ¬ (1 : Int) = 0 by decide), if_pos (w2'.tok.1.mpr kz)]
        cases hN : fX12_nots g3 192 with
        | none => rw [hN] at b6; cases b6
        | some y =>
          rw [hN] at b6
          simp only [Option.bind_some] at b6 ⊢
          rw [b6]
          simp only [Option.bind_some]
          rw [if_neg (by have := b2.2.2.1; simp at this; omega)]
      obtain ⟨g5, d1, d2, d3, d4, d5, d6, d7⟩ := layCodes (x0 := g2) b1.1.1 b2 (by simp at hlen; omega)
      have hmr : fX12_sentence g 192 = some (o, g5) := by
        rw [hm]
        refine hr _ ?_
        rw [lpO_inl hs1]
        exact lpO_inr d1
      -- the class lays its sentence down
      have L4 : Lay (hup c 1 1 0) := yL.upF (by decide)
      obtain ⟨e, e1, e2, ⟨e30, e31, e32⟩, e4⟩ := copySen_ok (h := hup c 1 1 0) (s := 35) (d := 22) (ly_35_3 L4) (ly_22_3 L4) (ll_36 L4) (ll_23 L4) (by decide)
      have Le : Lay e := e2.lay L4 (by decide +kernel) (by decide +kernel)
      have er : ∀ a, a ≠ 22 → a ≠ 23 → e a = hup c 1 1 0 a := fun a a1 a2 => e2.row a (fun b => by unfold snF; simp; omega)
      have c35 : hup c 1 1 0 35 = c 35 := hup_off (by decide)
      have c36 : hup c 1 1 0 36 = c 36 := hup_off (by decide)
      have cthere : c 35 0 = 1 := by rw [y2 35 0 (by decide)]; exact c035
      refine ⟨o, e, g5, ?_, hmr, Le, d2, ?_, ?_, by rw [er 1 (by decide) (by decide), hup_at], ?_, ?_, Or.inr ⟨γ, ?_, by simp at hlen; omega, ?_, ?_, ?_, d5, fun i x hx => ?_⟩, fun i hi => ?_⟩
      · unfold fX11_sentence
        rw [ly_0_5 hL, hrs]
        simp only [Option.bind_some, pput]
        rw [ly_0_0 yL, if_neg (show ¬ (1 : Int) = 0 by decide), ly_0_3 L4, ly_0_5 L4, ly_34_2 L4, e1]
        simp only [Option.bind_some]
        rw [ly_0_3 Le, e31, c35, hD.2.1]
      · exact ((fc0.tr (y2.mono (fun a b z => by unfold seC; rw [z]; rfl))).tr (Fr.up (by decide))).tr (e2.mono (fun a b z => by unfold seC; rw [z]; simp))
      · exact (fg2.tr (fm.mono (fun a b z => by unfold seM; rw [z]; rfl))).tr ((b4.mono (fun a b z => by unfold seM; rw [z]; rfl)).tr d3)
      · rw [d7 192 (by decide), b4 192 2 (by decide), fm 192 2 (by decide), z2 192 2 (by decide)]; exact q2
      · rw [er 1 (by decide) (by decide), hup_ne (by omega), e8, d7 192 (by decide)]
        exact b1.2.2.1.2.symm
      · obtain ⟨ρ, hρ, hρ2⟩ := ex
        have h0 := hρ2 0
        rw [List.nil_append] at hρ
        rw [hρ]
        cases ρ with
        | nil => exact absurd h0 (by show ¬ (0 = 0 + 1); decide)
        | cons x l => simp
      · obtain ⟨ρ, hρ, hρ2⟩ := ex
        rw [List.nil_append] at hρ
        rw [hρ]
        exact hρ2 0
      · rw [e30, c35]; exact cthere
      · rw [e32, c35]; exact hD.1
      · have hi := (List.getElem?_eq_some_iff.mp hx).1
        refine ⟨?_, d6 i x hx⟩
        rw [e4 _ (by omega) (by simp at hlen; omega), e4 _ (by omega) (by simp at hlen; omega), e4 _ (by omega) (by simp at hlen; omega), show (35 : Int) + 1 = 36 from rfl, c36]
        exact hD.2.2 i x hx
      · rw [d4 i hi, snM_row b4 (by decide) (by decide) (by decide), snM_row fm (by decide) (by decide) (by decide), g2r 194 (by decide)]
    · rw [if_neg kz] at hrs
      obtain ⟨c3, f1', f2', f3'⟩ := failC (k := 1) hcC
      rw [f1'] at hrs
      simp only [Option.bind_some, if_true] at hrs
      have hb : FLD g2 g3 c3 := beh_bad hw hk1 hk2 nTop_nil (Or.inr ⟨kz, fun _ => rfl⟩) f2'
      exact fails c3 hrs (f3'.lay yL tkF_lay1 tkF_lay2) (y2.tr (f3'.mono (fun a b z => tk_sn z))) (hb.from hr fm)
theorem StI.of2 {h h' : hH} (h2 : StI h) (e : ∀ a, 13 ≤ a → a < 22 → h' a = h a) (es : ∀ i, 0 ≤ i → i < 1239 → h' 194 i = h 194 i) (hT : h 194 0 ≤ 4) : StI h' := by
  have eq : EqS (h 194) (h' 194) := fun i i0 i1 => (es i i0 i1).symm
  exact ⟨(StH.sameL (fun a a0 a1 => e a (by omega) (by omega)) h2.1).cong eq, h2.2.cong eq hT⟩
def seA (a b : Int) : Bool := seC a b || seM a b
theorem sentence_ok {h : hH} (hL : Lay h) (hT : TapeR h) (hR : Res0 h) (h1 : SchI h) (h2 : StI h) (hn : NamR h h 4 0 (h 194)) (hS : SenR h 22 (h 194)) : ∃ r k e, fX11_sentence h 0 = some (r, k) ∧ fX12_sentence k 192 = some (r, e) ∧ Lay e ∧ Fr seA h e ∧ e 1 1 = 0 ∧ e 192 2 = 0 ∧ FauI e ∧ SenR e 22 (e 194) ∧ ∀ i, i < 1239 → e 194 i = h 194 i := by
  have hP := PI.of hL h1 hn
  obtain ⟨r, k, g0, a1, -, aL, -, a3, -⟩ := sentence2 hL hL (show TapeM h h from hT) hR hP hS
  have kr : ∀ a, 191 < a → k a = h a := fun a ha => seC_row a3 (by omega)
  obtain ⟨r', k', e, b1, b2, b3, b4, b5, b6, b7, b8, b9, b10, b11⟩ := sentence2 (g := k) hL aL ⟨by rw [kr 192 (by decide)]; exact hT.1, hT.2.1, hT.2.2.1, fun i i0 i1 => by rw [kr 193 (by decide)]; exact hT.2.2.2 i i0 i1⟩ (by unfold Res0; rw [kr 199 (by decide)]; exact hR) (hP.ln2 (fun _ _ _ => rfl) (kr 198 (by decide)) (kr 194 (by decide))) (by rw [kr 194 (by decide)]; exact hS)
  have ee := a1.symm.trans b1
  have e1 : r = r' ∧ k = k' := by injection ee with x; injection x with x y; exact ⟨x, y⟩
  obtain ⟨rfl, rfl⟩ := e1
  have gk : ∀ a, a < 192 → e a = k a := fun a ha => seM_row b6 (by omega)
  refine ⟨r, k, e, b1, b2, b4, (b5.mono (fun a b z => by unfold seA; rw [z]; rfl)).tr (b6.mono (fun a b z => by unfold seA; rw [z]; simp)), by rw [gk 1 (by decide)]; exact b7, b8, ?_, ?_, fun i hi => by rw [b11 i hi, kr 194 (by decide)]⟩
  · unfold FauI
    rw [gk 1 (by decide)]
    exact b9
  · exact b10.cp (by rw [gk 22 (by decide)]) (by rw [gk 22 (by decide)]) (fun j _ _ => by rw [gk (22 + 1) (by decide)]) (fun _ _ _ => rfl)
