/-! READING LINES: what both do at a token -/
section SIM
variable {B : Int → Int} {L M n : Int} {K A V E : Int → Int}
def lnC (a b : Int) : Bool := tkF a b || (a == 38 && decide (0 ≤ b))
def lnM (a b : Int) : Bool := txF a b || (a == 197 && decide (0 ≤ b))
theorem lnC_1 : refT.all (fun q => !(lnC q.1 q.2.1)) = true := by decide +kernel
theorem lnC_2 : lenT.all (fun q => !(lnC q.1 (-1))) = true := by decide +kernel
theorem lnM_1 : refT.all (fun q => !(lnM q.1 q.2.1)) = true := by decide +kernel
theorem lnM_2 : lenT.all (fun q => !(lnM q.1 (-1))) = true := by decide +kernel
theorem tk_ln {a b : Int} (z : tkF a b = true) : lnC a b = true := by unfold lnC; rw [z]; rfl
theorem tx_ln {a b : Int} (z : txF a b = true) : lnM a b = true := by unfold lnM; rw [z]; rfl
theorem lnC_row {c c' : hH} (hf : Fr lnC c c') {a : Int} (h1 : a ≠ 1) (h2 : a ≠ 38) (h3 : a ≠ 37) : c' a = c a := hf.row a (fun b => by unfold lnC tkF; simp; omega)
theorem lnM_row {g g' : hH} (hf : Fr lnM g g') {a : Int} (h1 : a ≠ 192) (h2 : a ≠ 197) : g' a = g a := hf.row a (fun b => by unfold lnM txF nxC; simp; omega)
theorem SC.up38 {j b v : Int} {c : hH} (h : SC n K A V j c) (hb : 0 ≤ b) : SC n K A V j (hup c 38 b v) := by
  have fr : Fr lnC c (hup c 38 b v) := Fr.up (by unfold lnC; simp; omega)
  exact h.per (fr.lay h.1 lnC_1 lnC_2) (by rw [hup_off (by decide)]) (fun x _ _ => by rw [hup_off (by decide)])
theorem SC.up37 {j v : Int} {c : hH} (h : SC n K A V j c) : SC n K A V j (hup c 37 2 v) := by
  have fr : Fr (fun a b => a == 37 && b == 2) c (hup c 37 2 v) := Fr.up (by decide)
  exact h.per (fr.lay h.1 (by decide +kernel) (by decide +kernel)) (by rw [hup_off (by decide)]) (fun x _ _ => by rw [hup_off (by decide)])
theorem SM.up197 {j b v : Int} {g : hH} (h : SM B L M n K A V E j g) (hb : 0 ≤ b) : SM B L M n K A V E j (hup g 197 b v) := by
  have fr : Fr lnM g (hup g 197 b v) := Fr.up (by unfold lnM; simp; omega)
  exact h.per (fr.lay h.1.1 lnM_1 lnM_2) (by rw [hup_off (by decide)]) (by rw [hup_off (by decide)]) (fun x _ => by rw [hup_off (by decide)])
theorem setPart_ok {c : hH} (hL : Lay c) {i p v : Int} (i0 : 0 ≤ i) (i1 : i < 40) (p0 : 0 ≤ p) (p1 : p < 19) : fX2_setPart c 37 i p v = some (hup c 38 (19 * i + p) v) := by
  unfold fX2_setPart
  rw [w32_id (x := i * 19) (by omega) (by omega), w32_id (x := i * 19 + p) (by omega) (by omega), ly_37_3 hL, put_in (by omega) (by rw [ll_38 hL]; omega), show i * 19 + p = 19 * i + p by omega]
  rfl
theorem row197 {g : hH} (hL : Lay g) {i : Int} (i0 : 0 ≤ i) (i1 : i < 800) : aget g (g 192 9) i = some (g 197 i) := by
  rw [ly_192_9 hL]
  exact aget_in i0 (by rw [ll_197 hL]; exact i1)
theorem put197 {g : hH} (hL : Lay g) {i v : Int} (i0 : 0 ≤ i) (i1 : i < 800) : aput g (g 192 9) i v = some (hup g 197 i v) := by
  rw [ly_192_9 hL]
  exact aput_in i0 (by rw [ll_197 hL]; exact i1)
theorem row194 {g : hH} (hL : Lay g) {i : Int} (i0 : 0 ≤ i) (i1 : i < 1420) : aget g (g 192 6) i = some (g 194 i) := by
  rw [ly_192_6 hL]
  exact aget_in i0 (by rw [ll_194 hL]; exact i1)
/-- both fail at the same place -/
def FF (c g : hH) : Prop := ∃ k a, FRc k a c ∧ FRm k a g ∧ 1 ≤ k
/-- the plan both read -/
def PI (c g : hH) : Prop := DR c g 4 0 (g 194)
theorem PI.ln {c g c' g' : hH} (h : PI c g) (hc : Fr lnC c c') (hg : Fr lnM g g') : PI c' g' := by
  unfold PI
  rw [lnM_row hg (a := 194) (by decide) (by decide)]
  exact DR.per h (Or.inl rfl) (fun a a0 a1 => lnC_row hc (by omega) (by omega) (by omega)) (lnM_row hg (by decide) (by decide))
theorem no_w : (1852796517 : Int) = rs256 21 ∧ (26982 : Int) = rs256 15 ∧ (6385252 : Int) = rs256 16 ∧ (115923103347316 : Int) = rs256 13 ∧ (110386773062757 : Int) = rs256 14 ∧ (7562612 : Int) = rs256 17 := by decide +kernel
theorem value2 {c g : hH} {j a : Int} (hC : Chain B L M n K A V E) (hc : SC n K A V j c) (hg : SM B L M n K A V E j g) (a0 : 0 ≤ a) (a1 : a < 800) : ∃ x b c' g', fX9_takeValue c 1 = some (x, c') ∧ fX12_takesValue g 192 a = some (b, g') ∧ Fr tkF c c' ∧ Fr lnM g g' ∧ ((x = -1 ∧ b = 0 ∧ FF c' g') ∨ ((-1 ≤ x ∧ x ≤ 99) ∧ b = 1 ∧ SC n K A V (nx n j) c' ∧ SM B L M n K A V E (nx n j) g' ∧ c' 1 8 = c 1 8 ∧ ∀ i, g' 197 i = if i = a then x else g 197 i)) := by
  unfold fX9_takeValue fX12_takesValue
  rw [hc.k, no_w.1, isWordM hg (by decide) (by decide)]
  simp only [Option.bind_some]
  by_cases z : K j = 149
  · obtain ⟨c1, k1, k2, k3, k4, -⟩ := stepC hC hc
    have U := hg.up197 (b := a) (v := -1) a0
    obtain ⟨g1, m1, m2, m3⟩ := nextM hC U
    rw [if_pos z, if_pos (show K j = 128 + 21 by omega), if_neg (show ¬ (1 : Int) = 0 by decide), k1, put197 hg.1.1 a0 a1]
    simp only [Option.bind_some]
    rw [m1]
    refine ⟨-1, 1, c1, g1, rfl, rfl, k3, (Fr.up (by unfold lnM; simp; omega)).tr (m3.mono (fun a b z => tx_ln (nx_tx z))), Or.inr ⟨by omega, rfl, k2, m2, k4, fun i => ?_⟩⟩
    rw [txF_row (m3.mono (fun a b z => nx_tx z)) (by decide), hup_row]
    rfl
  · obtain ⟨x, b, c1, g1, h1, h2, h3⟩ := takeNumber2 hC hc hg
    rw [if_neg z, if_neg (show ¬ K j = 128 + 21 by omega), if_pos (show (0 : Int) = 0 from rfl), h1, h2]
    simp only [Option.bind_some]
    rcases h3 with ⟨rfl, rfl, ⟨⟨k, q, f1, f2, f3⟩, fc, fg⟩⟩ | ⟨hx, rfl, e19, S1, U1, fc, fg, e8⟩
    · rw [if_pos rfl]
      exact ⟨-1, 0, c1, g1, rfl, rfl, fc, fg.mono (fun a b z => tx_ln z), Or.inl ⟨rfl, rfl, k, q, f1, f2, f3⟩⟩
    · rw [if_neg (show ¬ (1 : Int) = 0 by decide), e19, put197 U1.1.1 a0 a1]
      refine ⟨x, 1, c1, _, rfl, rfl, fc, (fg.mono (fun a b z => tx_ln z)).tr (Fr.up (by unfold lnM; simp; omega)), Or.inr ⟨by omega, rfl, S1, U1.up197 a0, e8, fun i => ?_⟩⟩
      rw [hup_row, txF_row fg (by decide)]
      rfl
theorem ownTable2 {c g : hH} {j to : Int} (hC : Chain B L M n K A V E) (hc : SC n K A V j c) (hg : SM B L M n K A V E j g) (hD : PI c g) (t0 : 0 ≤ to) (t1 : to + 20 ≤ 800) : ∃ x b c' g', fX9_takeTable c 1 4 = some (x, c') ∧ fX12_takesOwnTable g 192 to = some (b, g') ∧ Fr tkF c c' ∧ Fr lnM g g' ∧ ((x = -1 ∧ b = 0 ∧ FF c' g') ∨ ((0 ≤ x ∧ x < g 194 0) ∧ b = 1 ∧ SC n K A V (nx n j) c' ∧ SM B L M n K A V E (nx n j) g' ∧ c' 1 8 = c 1 8 ∧ ∀ i, g' 197 i = if i = to + 7 then 0 else if i = to + 2 then 0 else if i = to + 1 then x else g 197 i)) := by
  obtain ⟨x, b, c1, g1, h1, h2, h3⟩ := takeTable2 hC hc hg hD
  unfold fX12_takesOwnTable
  rw [row194 hg.1.1 (by decide) (by decide)]
  simp only [Option.bind_some]
  rw [h2]
  simp only [Option.bind_some]
  rcases h3 with ⟨rfl, rfl, ⟨⟨k, q, f1, f2, f3⟩, fc, fg⟩⟩ | ⟨hx, rfl, e19, S1, U1, fc, fg, e8⟩
  · rw [if_pos rfl]
    exact ⟨-1, 0, c1, g1, h1, rfl, fc, fg.mono (fun a b z => tx_ln z), Or.inl ⟨rfl, rfl, k, q, f1, f2, f3⟩⟩
  · have U2 := U1.up197 (b := to + 1) (v := x) (by omega)
    have U3 := U2.up197 (b := to + 2) (v := 0) (by omega)
    have U4 := U3.up197 (b := to + 7) (v := 0) (by omega)
    rw [if_neg (show ¬ (1 : Int) = 0 by decide), e19, w32_id (x := to + 1) (by omega) (by omega), w32_id (x := to + 2) (by omega) (by omega), w32_id (x := to + 7) (by omega) (by omega), put197 U1.1.1 (by omega) (by omega)]
    simp only [Option.bind_some]
    rw [put197 U2.1.1 (by omega) (by omega)]
    simp only [Option.bind_some]
    rw [put197 U3.1.1 (by omega) (by omega)]
    refine ⟨x, 1, c1, _, h1, rfl, fc, (fg.mono (fun a b z => tx_ln z)).tr ((Fr.up (by unfold lnM; simp; omega)).tr ((Fr.up (by unfold lnM; simp; omega)).tr (Fr.up (by unfold lnM; simp; omega)))), Or.inr ⟨hx, rfl, S1, U4, e8, fun i => ?_⟩⟩
    rw [hup_row, hup_row, hup_row, txF_row fg (by decide)]
    rfl
theorem looksCol2 {c g : hH} {j t u : Int} (hc : SC n K A V j c) (hg : SM B L M n K A V E j g) (hD : PI c g) (t0 : 0 ≤ t) (t1 : t < g 194 0) (hu : -1 ≤ u) : ∃ x b c' g', fX9_colHere c 1 4 t u = some (x, c') ∧ fX12_looksAtCol g 192 t = some (b, g') ∧ ((x = -1 ∧ b = 0 ∧ FF c' g' ∧ Fr tkF c c' ∧ Fr txF g g') ∨ (x = -1 ∧ b = 1 ∧ 0 ≤ u ∧ g' 192 19 = u ∧ FRc 3 (A j) c' ∧ Fr tkF c c' ∧ Fr txF g g' ∧ SM B L M n K A V E j g') ∨ ((0 ≤ x ∧ x < g 194 (4 + t)) ∧ x ≠ u ∧ b = 1 ∧ g' 192 19 = x ∧ c' = c ∧ SM B L M n K A V E j g' ∧ Fr txF g g' ∧ K j = 4)) := by
  have hs := hD.2.2.1
  have h0 := hs.1
  obtain ⟨x, b, c', g', h1, h2, h3⟩ := colLook2 hc hg hD t0 t1 hu
  unfold fX12_looksAtCol
  rw [w32_id (x := 4 + t) (by omega) (by omega), w32_id (x := 4 * t) (by omega) (by omega), w32_id (x := 4 + 4 * t) (by omega) (by omega), row194 hg.1.1 (by omega) (by omega)]
  simp only [Option.bind_some]
  rw [show (0 : Int) + 4 + 4 * t = 4 + 4 * t by omega] at h2
  rw [h2]
  refine ⟨x, b, c', g', h1, rfl, ?_⟩
  rcases h3 with ⟨z1, z2, ⟨k, q, f1, f2, f3⟩, z4, z5⟩ | z | z
  · exact Or.inl ⟨z1, z2, ⟨k, q, f1, f2, f3⟩, z4, z5⟩
  · exact Or.inr (Or.inl z)
  · exact Or.inr (Or.inr z)
/-- a line begins in the class -/
theorem startLine_ok {c : hH} {i w t : Int} (hL : Lay c) (i0 : 0 ≤ i) (i1 : i < 40) : ∃ c', fX2_startLine c 37 i w t = some c' ∧ Fr (fun a b => a == 38 && decide (0 ≤ b)) c c' ∧ c' 38 (19 * i) = w ∧ c' 38 (19 * i + 1) = t ∧ c' 38 (19 * i + 2) = 0 ∧ (∀ k, 3 ≤ k → k < 7 → c' 38 (19 * i + k) = -1) ∧ ∀ b, (b < 19 * i ∨ 19 * i + 7 ≤ b) → c' 38 b = c 38 b := by
  have lay : ∀ x : hH, Fr (fun a b => a == 38 && decide (0 ≤ b)) c x → Lay x := fun x hx => hx.lay hL (by decide +kernel) (by decide +kernel)
  have up : ∀ (x : hH) (b v : Int), 0 ≤ b → Fr (fun a b => a == 38 && decide (0 ≤ b)) x (hup x 38 b v) := fun x b v hb => Fr.up (by simp; omega)
  unfold fX2_startLine
  rw [setPart_ok hL i0 i1 (by decide) (by decide)]
  simp only [Option.bind_some]
  have F1 := up c (19 * i + 0) w (by omega)
  rw [setPart_ok (lay _ F1) i0 i1 (by decide) (by decide)]
  simp only [Option.bind_some]
  have F2 := F1.tr (up _ (19 * i + 1) t (by omega))
  rw [setPart_ok (lay _ F2) i0 i1 (by decide) (by decide)]
  simp only [Option.bind_some]
  have F3 := F2.tr (up _ (19 * i + 2) 0 (by omega))
  generalize hc3 : hup (hup (hup c 38 (19 * i + 0) w) 38 (19 * i + 1) t) 38 (19 * i + 2) 0 = c3 at F3
  have v3 : ∀ b, c3 38 b = if b = 19 * i + 2 then 0 else if b = 19 * i + 1 then t else if b = 19 * i + 0 then w else c 38 b := fun b => by
    rw [← hc3, hup_row, hup_row, hup_row]
    rfl
  obtain ⟨r, r1, r2, r3⟩ := lpO_invG (f := fX2_startLine_s24 c3 37 i) (fun k (x : hH) => (x, 3 + k)) 4 (fun k x => Fr (fun a b => a == 38 && decide (0 ≤ b)) c x ∧ ∀ b, x 38 b = if 19 * i + 3 ≤ b ∧ b < 19 * i + 3 + k then -1 else c3 38 b) (fun x => Fr (fun a b => a == 38 && decide (0 ≤ b)) c x ∧ ∀ b, x 38 b = if 19 * i + 3 ≤ b ∧ b < 19 * i + 7 then -1 else c3 38 b) (fun k x k0 k1 hx => by
    refine Or.inl ⟨hup x 38 (19 * i + (3 + k)) (-1), ?_, hx.1.tr (up _ _ _ (by omega)), fun b => ?_⟩
    · unfold fX2_startLine_s24
      dsimp only
      rw [if_pos (show 3 + k < 7 by omega), setPart_ok (lay _ hx.1) i0 i1 (by omega) (by omega), w1 (by omega) (by omega), show 3 + k + 1 = 3 + (k + 1) by omega]
      rfl
    · rw [hup_row]
      unfold up1
      rw [hx.2]
      by_cases e : b = 19 * i + (3 + k)
      · rw [if_pos e, if_pos (by omega)]
      · rw [if_neg e]
        by_cases y : 19 * i + 3 ≤ b ∧ b < 19 * i + 3 + k
        · rw [if_pos y, if_pos (by omega)]
        · rw [if_neg y, if_neg (by omega)]) (fun x hx => by
    refine ⟨x, ?_, hx.1, fun b => by rw [hx.2, show 19 * i + 3 + 4 = 19 * i + 7 by omega]⟩
    unfold fX2_startLine_s24
    dsimp only
    rw [if_neg (by decide)]) (i := 0) (a := c3) (Int.le_refl _) (by decide) ⟨F3, fun b => by rw [if_neg (by omega)]⟩
  rw [show (3 : Int) + 0 = 3 from rfl] at r1
  refine ⟨r, r1, r2, ?_, ?_, ?_, fun k k0 k1 => ?_, fun b hb => ?_⟩
  · rw [r3, if_neg (by omega), v3, if_neg (by omega), if_neg (by omega), if_pos (by omega)]
  · rw [r3, if_neg (by omega), v3, if_neg (by omega), if_pos rfl]
  · rw [r3, if_neg (by omega), v3, if_pos rfl]
  · rw [r3, if_pos (by omega)]
  · rw [r3, if_neg (by omega), v3, if_neg (by omega), if_neg (by omega), if_neg (by omega)]
end SIM
