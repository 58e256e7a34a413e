/-! WHAT THE CLASS ANSWERS, BY VALUE; THE LAW'S OWN ROW -/
def ouA (a b : Int) : Bool := a == 224 && b == 0
theorem Inv.out {h : hH} (hI : Inv h) (v : Int) : Inv (hup h 224 0 v) := by
  obtain ⟨hL, ⟨iT, iR⟩, ⟨i1, i2, i3, i4⟩, ⟨iF, iO, iJ, iV⟩, iD, iG, iS, iM⟩ := hI
  have hf : Fr ouA h (hup h 224 0 v) := Fr.up (by decide)
  exact ⟨hf.lay hL (by decide +kernel) (by decide +kernel), ⟨iT.of (hf 192 2 (by decide)) (hf 1 1 (by decide)) (hf.row 2 (fun b => by unfold ouA; simp)) (hf.row 193 (fun b => by unfold ouA; simp)), iR.of (hf.row 199 (fun b => by unfold ouA; simp))⟩, ⟨i1.of (fun a a0 a1 => hf.row a (fun b => by unfold ouA; simp <;> omega)) (fun i i0 i1 => hf 194 i (by unfold ouA; simp <;> omega)), i2.of2 (fun a a0 a1 => hf.row a (fun b => by unfold ouA; simp <;> omega)) (fun i i0 i1 => hf 194 i (by unfold ouA; simp <;> omega)) i1.2.1.2, i3.of (hf 0 11 (by decide)) (fun a a0 a1 => hf.row a (fun b => by unfold ouA; simp <;> omega)) (hf 192 44 (by decide)) (hf.row 212 (fun b => by unfold ouA; simp)) (fun i i1 => hf 194 i (by unfold ouA; simp <;> omega)) i1.2.1.2, nam_of i4 i1.2 (hf.row 5 (fun b => by unfold ouA; simp)) (hf.row 7 (fun b => by unfold ouA; simp)) (fun i i0 i1 => hf 198 i (by unfold ouA; simp <;> omega)) (fun i i0 i1 => hf 194 i (by unfold ouA; simp <;> omega))⟩, ⟨iF.of (hf 1 8 (by decide)) (hf 192 16 (by decide)), iO.of (hf 192 55 (by decide)) (hf.row 76 (fun b => by unfold ouA; simp)) (hf.row 217 (fun b => by unfold ouA; simp)), iJ.of (hf.row 39 (fun b => by unfold ouA; simp)) (hf.row 46 (fun b => by unfold ouA; simp)) (hf.row 47 (fun b => by unfold ouA; simp)) (hf.row 207 (fun b => by unfold ouA; simp)) (hf.row 208 (fun b => by unfold ouA; simp)) (hf 192 42 (by decide)), iV.of (hf.row 44 (fun b => by unfold ouA; simp)) (hf.row 45 (fun b => by unfold ouA; simp)) (hf.row 209 (fun b => by unfold ouA; simp)) (hf.row 210 (fun b => by unfold ouA; simp)) (hf.row 211 (fun b => by unfold ouA; simp)) (hf 192 41 (by decide))⟩, iD.of (hf 0 16 (by decide)) (hf 0 17 (by decide)) (hf 192 48 (by decide)) (hf.row 214 (fun b => by unfold ouA; simp)), iG.of (hf 192 50 (by decide)) (hf 0 15 (by decide)) (hf.row 216 (fun b => by unfold ouA; simp)) (hf.row 77 (fun b => by unfold ouA; simp)), sen_of iS (hf.row 22 (fun b => by unfold ouA; simp)) (hf.row 23 (fun b => by unfold ouA; simp)) (fun i i0 i1 => hf 194 i (by unfold ouA; simp <;> omega)), iM.of (fun a a0 a1 => hf.row a (fun b => by unfold ouA; simp <;> omega)) (hf.row 221 (fun b => by unfold ouA; simp)) (hf.row 222 (fun b => by unfold ouA; simp)) (hf.row 223 (fun b => by unfold ouA; simp))⟩
def cellS (S : Int → Int) (q c : Int) : Option Int := if (0 ≤ q ∧ q < 99 ∧ S (150 + q) = 1) ∧ 0 ≤ c ∧ c < S (4 + S (249 + q)) then some (S (348 + (4 * q + c))) else none
theorem cellV {h : hH} (hL : Lay h) (h1 : SchI h) (h2 : StI h) (q c : Int) : cellC h q c = some (cellS (h 194) q c) := by
  rcases slot14 hL h2 q with ⟨q0, q1, ql, i, i0, i1, e, s⟩ | ⟨n, s⟩
  · have m := h2.1.1.2.2.1 i i0 i1
    have n1 : h 14 0 ≤ 40 := h2.1.1.2.1
    have ht : h (14 + 2) i = h 194 (249 + q) := by rw [← e]; exact m.2.2.2.1
    have sv := h2.2.2.2.1 q q0 q1 ql
    have w4 := h1.2.2.2.2.2.1 _ sv.1.1 sv.1.2
    unfold cellC cellS
    rw [s]
    simp only [Option.bind_some]
    rw [if_neg (show ¬ i = -1 by omega)]
    by_cases z : c < 0
    · rw [if_pos z, if_neg (fun y => by omega)]
    · rw [if_neg z, tableAt_in (rowsAt14 hL) n1 i0 i1, ht]
      simp only [Option.bind_some]
      rw [width_ok (schAt_4 hL) h1.1 h1.2, if_pos sv.1]
      simp only [Option.bind_some]
      by_cases y : c < h 194 (4 + h 194 (249 + q))
      · rw [if_pos y, if_pos ⟨⟨q0, q1, ql⟩, by omega, y⟩, value_in (rowsAt14 hL) i0 (by omega) (by omega) (by omega)]
        have := m.2.2.2.2 c (by omega) (by omega)
        show some (some (h (14 + 3) (4 * i + c))) = _
        rw [show h (14 + 3) (4 * i + c) = h 194 (348 + (4 * q + c)) by rw [← e]; exact this]
      · rw [if_neg y, if_neg (fun x => y x.2.2)]
  · unfold cellC cellS
    rw [s]
    simp only [Option.bind_some]
    rw [if_pos trivial, if_neg (fun y => n y.1)]
def mnS (h : hH) (t c w : Int) : Option Int := if (0 ≤ t ∧ t < h 194 0) ∧ 0 ≤ c ∧ c < h 194 (4 + t) then mnO w ((rng 0 (h 14 0)).foldl (smS h t c) 0, (rng 0 (h 14 0)).foldl (smN h t c) 0) else none
def colO (S : Int → Int) (t c w : Int) : Option Int := if (0 ≤ t ∧ t < S 0) ∧ 0 ≤ c ∧ c < S (4 + t) then if 0 ≤ w ∧ w ≤ 3 then some (colV9 S t c w) else none else none
theorem colV {h : hH} (hL : Lay h) (h1 : SchI h) (t c what : Int) : colC h t c what = some (colO (h 194) t c what) := by
  unfold colC colO
  rw [has_ok (schAt_4 hL) h1.1 h1.2]
  simp only [Option.bind_some]
  by_cases z : (0 ≤ t ∧ t < h 194 0) ∧ 0 ≤ c ∧ c < h 194 (4 + t)
  · rw [if_pos z, if_neg (show ¬ (1 : Int) = 0 by decide), if_pos z]
    have T4 := h1.2.1
    have w4 := h1.2.2.2.2.2.1 t z.1.1 z.1.2
    by_cases y : 0 ≤ what ∧ what ≤ 3
    · rw [if_neg (show ¬ what < 0 by omega), if_neg (show ¬ 3 < what by omega), if_pos y]
      have df : fX4_defaultOf h 4 t c = some (h 194 (8 + (4 * t + c))) := by
        obtain ⟨-, -, -, a7, -, -, -, -, -, -, -, b4, -⟩ := schAt_4 hL
        unfold fX4_defaultOf
        rw [has_ok (schAt_4 hL) h1.1 h1.2, if_pos z]
        simp only [Option.bind_some]
        rw [if_neg (by decide), a7, show w32 (w32 (t * 4) + c) = 4 * t + c by rw [w32_id (x := t * 4) (by omega) (by omega), w32_id (by omega) (by omega)]; omega, at_in (by omega) (by omega), h1.1.2.2.1 _ (by omega) (by omega)]
        rfl
      rw [df, needed_ok9 (schAt_4 hL) h1.1 h1.2 z.1.1 (by omega) z.2.1 (by omega), keysWith_ok9 (schAt_4 hL) h1.1 h1.2, refsWith_ok9 (schAt_4 hL) h1.1 h1.2]
      unfold colV9
      by_cases y0 : what = 0
      · rw [if_pos y0, if_pos y0]; rfl
      · rw [if_neg y0, if_neg y0]
        by_cases y1 : what = 1
        · rw [if_pos y1, if_pos y1]; rfl
        · rw [if_neg y1, if_neg y1]
          by_cases y2 : what = 2
          · rw [if_pos y2, if_pos y2]; rfl
          · rw [if_neg y2, if_neg y2]; rfl
    · rw [if_neg y]
      by_cases y0 : what < 0
      · rw [if_pos y0]
      · rw [if_neg y0, if_pos (show 3 < what by omega)]
  · rw [if_neg z, if_pos rfl, if_neg z]
theorem meanV {h : hH} (hL : Lay h) (h1 : SchI h) (h2 : StI h) (t c what : Int) : meanC h t c what = some (mnS h t c what) := by
  have hn : h 14 0 ≤ 40 := h2.1.1.2.1
  unfold meanC mnS
  rw [has_ok (schAt_4 hL) h1.1 h1.2]
  simp only [Option.bind_some]
  by_cases z : (0 ≤ t ∧ t < h 194 0) ∧ 0 ≤ c ∧ c < h 194 (4 + t)
  · rw [if_pos z, if_neg (show ¬ (1 : Int) = 0 by decide), if_pos z]
    have T4 := h1.2.1
    have w4 := h1.2.2.2.2.2.1 t z.1.1 z.1.2
    have c0 : 0 ≤ c := z.2.1
    have c1 : c < 4 := by omega
    rw [countIn_ok hL h2 c0 c1]
    have bN := smN_b (h := h) (t := t) (c := c) (rng 0 (h 14 0)) 0
    have bS := smS_b (h := h) (t := t) (c := c) (rng 0 (h 14 0)) 0 (fun i hi => by
      have := mem_rng.mp hi
      have hv := vals h2 (c := c) this.1 this.2 c0 c1
      exact hv.2.2.2.2)
    rw [rng_len] at bN bS
    simp only [Option.bind_some]
    rw [sumIn_ok hL h2 c0 c1]
    simp only [Option.bind_some]
    generalize List.foldl (smN h t c) 0 (rng 0 (h 14 0)) = n at bN
    generalize List.foldl (smS h t c) 0 (rng 0 (h 14 0)) = s at bS
    unfold mnO
    dsimp only
    by_cases y : n = 0
    · rw [if_pos y, if_pos y]
    · rw [if_neg y, if_neg y]
      by_cases x : 0 ≤ what ∧ what ≤ 1
      · rw [if_neg (show ¬ what < 0 by omega), if_neg (show ¬ 1 < what by omega), if_pos x]
        unfold fX11_commonDivisor gdz
        rw [comD_ok 40 s n 0 (by omega) (by omega) (by omega) (by decide) (by omega)]
        simp only [Option.bind_some]
        have g1 := gG9_1 (a := s) (b := n) (by omega)
        rw [if_neg (by omega), if_neg (by omega), gG9_c (a := n)]
        rfl
      · rw [if_neg x]
        by_cases w : what < 0
        · rw [if_pos w]
        · rw [if_neg w, if_pos (show 1 < what by omega)]
  · rw [if_neg z, if_pos rfl]
    simp only [Option.bind_some]
    rw [if_pos trivial, if_neg z]
