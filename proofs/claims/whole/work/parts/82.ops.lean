/-! READING: tables, columns, numbers, both ways -/
section SIM
variable {B : Int → Int} {L M n : Int} {K A V E : Int → Int}
theorem tkF_row {c c' : hH} (hf : Fr tkF c c') {a : Int} (ha : a ≠ 1) : c' a = c a := hf.row a (fun b => by unfold tkF; simp; omega)
theorem txF_row {g g' : hH} (hf : Fr txF g g') {a : Int} (ha : a ≠ 192) : g' a = g a := hf.row a (fun b => by unfold txF nxC; simp; omega)
theorem DR.per {c g c' g' : hH} {p o : Int} {s : Int → Int} (hD : DR c g p o s) (hp : p = 4 ∨ p = 25) (ec : ∀ a, p ≤ a → a < p + 9 → c' a = c a) (eg : g' 198 = g 198) : DR c' g' p o s := by
  obtain ⟨a, b, d, ⟨e1, e2⟩, f⟩ := hD
  have e0 : c' p = c p := ec p (by omega) (by omega)
  refine ⟨?_, SchR.rows (fun k k0 k1 => ec _ (by omega) (by omega)) b, d, ⟨?_, ?_⟩, f⟩
  · unfold SchemaAt at a ⊢
    rw [e0, ec (p + 1) (by omega) (by omega), ec (p + 2) (by omega) (by omega), ec (p + 3) (by omega) (by omega), ec (p + 4) (by omega) (by omega), ec (p + 5) (by omega) (by omega), ec (p + 6) (by omega) (by omega), ec (p + 7) (by omega) (by omega), ec (p + 8) (by omega) (by omega)]
    exact a
  · rw [ec (p + 1) (by omega) (by omega), eg]; exact e1
  · rw [ec (p + 3) (by omega) (by omega), eg]; exact e2
theorem DR.tx {c g c' g' : hH} {p o : Int} {s : Int → Int} (hD : DR c g p o s) (hp : p = 4 ∨ p = 25) (hc : Fr tkF c c') (hg : Fr txF g g') : DR c' g' p o s := hD.per hp (fun a a0 a1 => tkF_row hc (by omega)) (txF_row hg (by decide))
def Go (B : Int → Int) (L M n : Int) (K A V E : Int → Int) (j : Int) (c g c' g' : hH) : Prop := SC n K A V (nx n j) c' ∧ SM B L M n K A V E (nx n j) g' ∧ Fr tkF c c' ∧ Fr txF g g' ∧ c' 1 8 = c 1 8
theorem Fl.mk2 {c g c' g' c2 g2 : hH} (h : Fl c' g' c2 g2) (hc : Fr tkF c c') (hg : Fr txF g g') : Fl c g c2 g2 := ⟨h.1, hc.tr h.2.1, hg.tr h.2.2⟩
theorem takeTable2 {c g : hH} {p o j : Int} {s : Int → Int} (hC : Chain B L M n K A V E) (hc : SC n K A V j c) (hg : SM B L M n K A V E j g) (hD : DR c g p o s) : ∃ x b c' g', fX9_takeTable c 1 p = some (x, c') ∧ fX12_takesName g 192 o (s 0) = some (b, g') ∧ ((x = -1 ∧ b = 0 ∧ Fl c g c' g') ∨ ((0 ≤ x ∧ x < s 0) ∧ b = 1 ∧ g' 192 19 = x ∧ Go B L M n K A V E j c g c' g')) := by
  have hr : ∃ r, K j = 4 → fX4_tableNamed c p (V j) = some r ∧ fX12_seek g 192 o (s 0) = some r ∧ (r = -1 ∨ (0 ≤ r ∧ r < s 0)) := by
    by_cases z : K j = 4
    · obtain ⟨r, h⟩ := table_find hD hg z
      exact ⟨r, fun _ => h⟩
    · exact ⟨0, fun y => absurd y z⟩
  obtain ⟨r, hr⟩ := hr
  obtain ⟨b, g1, m1, m2, m3⟩ := looks_m hg r (fun z => ⟨(hr z).2.1, by have := (hr z).2.2; omega⟩)
  unfold fX9_takeTable fX12_takesName
  rw [m1, hc.k, hc.v]
  simp only [Option.bind_some]
  rcases m3 with ⟨z, rfl, f⟩ | ⟨z, rfl, rfl, f⟩ | ⟨z, r0, rfl, e, S1⟩
  · obtain ⟨c', c1, c2, c3⟩ := failC (k := 1) hc
    rw [if_neg z, c1, if_pos rfl]
    exact ⟨-1, 0, c', g1, rfl, rfl, Or.inl ⟨rfl, rfl, ⟨1, A j, c2, f, by decide⟩, c3, m2⟩⟩
  · obtain ⟨c', c1, c2, c3⟩ := failC (k := 3) hc
    rw [if_pos z, (hr z).1]
    simp only [Option.bind_some, if_true]
    rw [c1]
    exact ⟨-1, 0, c', g1, rfl, rfl, Or.inl ⟨rfl, rfl, ⟨3, A j, c2, f, by decide⟩, c3, m2⟩⟩
  · obtain ⟨c', c1, c2, c3, c4, -⟩ := stepC hC hc
    obtain ⟨g2, n1, n2, n3⟩ := nextM hC S1
    rw [if_pos z, (hr z).1]
    simp only [Option.bind_some]
    rw [if_neg (show ¬ r = -1 by omega), c1, if_neg (by decide), n1]
    refine ⟨r, 1, c', g2, rfl, rfl, Or.inr ⟨by have := (hr z).2.2; omega, rfl, ?_, c2, n2, c3, m2.tr (n3.mono (fun a b z => nx_tx z)), c4⟩⟩
    rw [n3 192 19 (by decide)]; exact e
theorem colFind' {c g : hH} {p o j t : Int} {s : Int → Int} (hD : DR c g p o s) (hg : SM B L M n K A V E j g) (t0 : 0 ≤ t) (t1 : t < s 0) : ∃ r, K j = 4 → fX4_colNamed c p t (V j) = some r ∧ fX12_seek g 192 (o + 4 + 4 * t) (s (4 + t)) = some r ∧ (r = -1 ∨ (0 ≤ r ∧ r < s (4 + t))) := by
  by_cases z : K j = 4
  · obtain ⟨r, h⟩ := col_find hD hg z t0 t1
    exact ⟨r, fun _ => h⟩
  · exact ⟨0, fun y => absurd y z⟩
/-- the column at a token, without a step; the class may ask that it is unlike another -/
theorem colLook2 {c g : hH} {p o j t u : Int} {s : Int → Int} (hc : SC n K A V j c) (hg : SM B L M n K A V E j g) (hD : DR c g p o s) (t0 : 0 ≤ t) (t1 : t < s 0) (hu : -1 ≤ u) : ∃ x b c' g', fX9_colHere c 1 p t u = some (x, c') ∧ fX12_looksAt g 192 (o + 4 + 4 * t) (s (4 + t)) = some (b, g') ∧ ((x = -1 ∧ b = 0 ∧ Fl c g c' g') ∨ (x = -1 ∧ b = 1 ∧ 0 ≤ u ∧ g' 192 19 = u ∧ FRc 3 (A j) c' ∧ Fr tkF c c' ∧ Fr txF g g' ∧ SM B L M n K A V E j g') ∨ ((0 ≤ x ∧ x < s (4 + t)) ∧ x ≠ u ∧ b = 1 ∧ g' 192 19 = x ∧ c' = c ∧ SM B L M n K A V E j g' ∧ Fr txF g g' ∧ K j = 4)) := by
  obtain ⟨r, hr⟩ := colFind' hD hg t0 t1
  obtain ⟨b, g1, m1, m2, m3⟩ := looks_m hg r (fun z => ⟨(hr z).2.1, by have := (hr z).2.2; omega⟩)
  obtain ⟨x, c1, k1, k2, k3⟩ := colHere_c (p := p) (t := t) (u := u) hc r (fun z => ⟨(hr z).1, by have := (hr z).2.2; omega⟩) hu
  refine ⟨x, b, c1, g1, k1, m1, ?_⟩
  rcases m3 with ⟨z, rfl, f⟩ | ⟨z, rfl, rfl, f⟩ | ⟨z, r0, rfl, e, S1⟩
  · rcases k3 with ⟨_, rfl, h⟩ | ⟨y, _⟩ | ⟨y, _⟩
    · exact Or.inl ⟨rfl, rfl, ⟨1, A j, h, f, by decide⟩, k2, m2⟩
    · exact absurd y z
    · exact absurd y z
  · rcases k3 with ⟨y, _⟩ | ⟨_, _, rfl, h⟩ | ⟨_, y, _⟩
    · exact absurd z y
    · exact Or.inl ⟨rfl, rfl, ⟨3, A j, h, f, by decide⟩, k2, m2⟩
    · omega
  · rcases k3 with ⟨y, _⟩ | ⟨_, y, rfl, h⟩ | ⟨_, _, y, rfl, h⟩
    · exact absurd z y
    · have : r = u := by omega
      exact Or.inr (Or.inl ⟨rfl, rfl, by omega, by rw [e]; exact this, h, k2, m2, S1⟩)
    · exact Or.inr (Or.inr ⟨by have := (hr z).2.2; omega, y, rfl, e, h, S1, m2, z⟩)
theorem takeCol2 {c g : hH} {p o j t : Int} {s : Int → Int} (hC : Chain B L M n K A V E) (hc : SC n K A V j c) (hg : SM B L M n K A V E j g) (hD : DR c g p o s) (t0 : 0 ≤ t) (t1 : t < s 0) : ∃ x b c' g', fX9_takeCol c 1 p t (-1) = some (x, c') ∧ fX12_takesName g 192 (o + 4 + 4 * t) (s (4 + t)) = some (b, g') ∧ ((x = -1 ∧ b = 0 ∧ Fl c g c' g') ∨ ((0 ≤ x ∧ x < s (4 + t)) ∧ b = 1 ∧ g' 192 19 = x ∧ Go B L M n K A V E j c g c' g')) := by
  obtain ⟨x, b, c1, g1, k1, m1, h⟩ := colLook2 (u := -1) hc hg hD t0 t1 (Int.le_refl _)
  unfold fX9_takeCol fX12_takesName
  rw [k1, m1]
  simp only [Option.bind_some]
  rcases h with ⟨rfl, rfl, f⟩ | ⟨_, _, y, _⟩ | ⟨hx, _, rfl, e, rfl, S1, m2, z⟩
  · rw [if_pos rfl, if_pos rfl]
    exact ⟨-1, 0, c1, g1, rfl, rfl, Or.inl ⟨rfl, rfl, f⟩⟩
  · omega
  · obtain ⟨c', c2, c3, c4, c5, -⟩ := stepC hC hc
    obtain ⟨g2, n1, n2, n3⟩ := nextM hC S1
    rw [if_neg (by omega), c2, if_neg (by decide), n1]
    refine ⟨x, 1, c', g2, rfl, rfl, Or.inr ⟨hx, rfl, ?_, c3, n2, c4, m2.tr (n3.mono (fun a b z => nx_tx z)), c5⟩⟩
    rw [n3 192 19 (by decide)]; exact e
theorem takeNumber2 {c g : hH} {j : Int} (hC : Chain B L M n K A V E) (hc : SC n K A V j c) (hg : SM B L M n K A V E j g) : ∃ x b c' g', fX9_takeNumber c 1 = some (x, c') ∧ fX12_takes g 192 0 99 = some (b, g') ∧ ((x = -1 ∧ b = 0 ∧ Fl c g c' g') ∨ ((0 ≤ x ∧ x ≤ 99) ∧ b = 1 ∧ g' 192 19 = x ∧ Go B L M n K A V E j c g c' g')) := by
  have tk := SM.tok hg
  have tb := (hc.2.1.2.2 j hc.2.2.2.1 hc.2.2.2.2).2.2.2
  unfold fX9_takeNumber fX12_takes
  rw [hc.k, hc.v]
  by_cases z : K j = 3
  · rw [if_pos z, if_pos (tk.2.1.mpr z), tk.2.2.1 z, isIn_ok]
    simp only [Option.bind_some]
    by_cases y : 99 < V j
    · have e1 : 0 < lcmD (V j) 99 := by unfold lcmD; rw [if_neg (by omega), if_neg (by omega)]; decide
      rw [if_pos e1, if_neg (show ¬ (0 ≤ V j ∧ V j ≤ 99) by omega), if_pos rfl]
      obtain ⟨c', g', c1, g1, f⟩ := fail2 (k := 2) hc hg (by decide)
      rw [c1, g1]
      exact ⟨-1, 0, c', g', rfl, rfl, Or.inl ⟨rfl, rfl, f⟩⟩
    · have e1 : ¬ 0 < lcmD (V j) 99 := by
        unfold lcmD
        by_cases w : V j < 99
        · rw [if_pos w]; decide
        · rw [if_neg w, if_pos (by omega)]; decide
      rw [if_neg e1, if_pos (show 0 ≤ V j ∧ V j ≤ 99 by omega), if_neg (by decide)]
      simp only [pput, Option.bind_some]
      generalize hq : hup g 192 19 (V j) = q
      have fq : Fr txF g q := by rw [← hq]; exact Fr.up (by decide)
      have Lq := fq.lay hg.1.1 txF_lay1 txF_lay2
      have Sq : SM B L M n K A V E j q := hg.per Lq (by rw [← hq, hup_off (by decide)]) (by rw [← hq, hup_off (by decide)]) (fun b hb => by rw [← hq, hup_ne (by omega)])
      obtain ⟨c', c1, c2, c3, c4, -⟩ := stepC hC hc
      obtain ⟨g2, n1, n2, n3⟩ := nextM hC Sq
      rw [c1, n1]
      refine ⟨V j, 1, c', g2, ?_, rfl, Or.inr ⟨by omega, rfl, ?_, c2, n2, c3, fq.tr (n3.mono (fun a b z => nx_tx z)), c4⟩⟩
      · simp only [Option.bind_some]
        rw [w32_id (by omega) (by omega)]
      · rw [n3 192 19 (by decide), ← hq, hup_at]
  · rw [if_neg z, if_neg (fun y => z (tk.2.1.mp y))]
    obtain ⟨c', g', c1, g1, f⟩ := fail2 (k := 1) hc hg (by decide)
    rw [c1, g1]
    exact ⟨-1, 0, c', g', rfl, rfl, Or.inl ⟨rfl, rfl, f⟩⟩
/-! the schema's own -/
theorem row195 {g : hH} (hL : Lay g) {i : Int} (i0 : 0 ≤ i) (i1 : i < 148) : aget g (g 192 7) i = some (g 195 i) := by
  rw [ly_192_7 hL]
  exact aget_in i0 (by rw [ll_195 hL]; exact i1)
theorem put195 {g : hH} (hL : Lay g) {i v : Int} (i0 : 0 ≤ i) (i1 : i < 148) : aput g (g 192 7) i v = some (hup g 195 i v) := by
  rw [ly_192_7 hL]
  exact aput_in i0 (by rw [ll_195 hL]; exact i1)
theorem hup_row {h : hH} {k j v : Int} : hup h k j v k = up1 (h k) j v := by
  funext b
  unfold hup up1
  by_cases z : b = j
  · rw [if_pos ⟨rfl, z⟩, if_pos z]
  · rw [if_neg (fun y => z y.2), if_neg z]
/-- the schema so far is alike -/
def DI (c g : hH) : Prop := DR c g 25 20 (g 195)
theorem tableS {c g : hH} {j : Int} (hC : Chain B L M n K A V E) (hc : SC n K A V j c) (hg : SM B L M n K A V E j g) (hD : DI c g) : ∃ x b c' g', fX9_takeTable c 1 25 = some (x, c') ∧ fX12_takesTable g 192 = some (b, g') ∧ ((x = -1 ∧ b = 0 ∧ Fl c g c' g') ∨ ((0 ≤ x ∧ x < g 195 0) ∧ b = 1 ∧ g' 192 19 = x ∧ Go B L M n K A V E j c g c' g')) := by
  obtain ⟨x, b, c', g', h1, h2, h3⟩ := takeTable2 hC hc hg hD
  refine ⟨x, b, c', g', h1, ?_, h3⟩
  unfold fX12_takesTable
  rw [row195 hg.1.1 (by decide) (by decide)]
  simp only [Option.bind_some]
  rw [h2]
  rfl
theorem colFrom {t : Int} (t0 : 0 ≤ t) (t1 : t < 4) : w32 (24 + w32 (4 * t)) = 20 + 4 + 4 * t ∧ w32 (4 + t) = 4 + t := by
  rw [w32_id (x := 4 * t) (by omega) (by omega), w32_id (by omega) (by omega), w32_id (by omega) (by omega)]
  exact ⟨by omega, rfl⟩
theorem colS {c g : hH} {j t : Int} (hC : Chain B L M n K A V E) (hc : SC n K A V j c) (hg : SM B L M n K A V E j g) (hD : DI c g) (t0 : 0 ≤ t) (t1 : t < g 195 0) : ∃ x b c' g', fX9_takeCol c 1 25 t (-1) = some (x, c') ∧ fX12_takesCol g 192 t = some (b, g') ∧ ((x = -1 ∧ b = 0 ∧ Fl c g c' g') ∨ ((0 ≤ x ∧ x < g 195 (4 + t)) ∧ b = 1 ∧ g' 192 19 = x ∧ Go B L M n K A V E j c g c' g')) := by
  have h4 := hD.2.2.1.1
  obtain ⟨x, b, c', g', h1, h2, h3⟩ := takeCol2 hC hc hg hD t0 t1
  obtain ⟨e1, e2⟩ := colFrom t0 (show t < 4 by omega)
  refine ⟨x, b, c', g', h1, ?_, h3⟩
  unfold fX12_takesCol
  rw [e1, e2, row195 hg.1.1 (by omega) (by omega)]
  simp only [Option.bind_some]
  rw [h2]
  rfl
theorem nx_le {j : Int} : j ≤ nx n j := by
  unfold nx
  split <;> omega
theorem nx_s {j : Int} (hC : Chain B L M n K A V E) (j1 : j < n) (h0 : K j ≠ 0) (h1 : K j ≠ 1) : nx n j = j + 1 := by
  unfold nx
  by_cases z : j + 1 < n
  · rw [if_pos z]
  · have := hC.2.2.2
    have e : n - 1 = j := by omega
    rw [e] at this
    omega
def scF (a b : Int) : Bool := tkF a b || (a == 24 && (b == 3 || b == 4 || b == 5))
def smF (a b : Int) : Bool := txF a b || (a == 192 && (b == 21 || b == 22))
theorem sc_row {c c' : hH} (hf : Fr scF c c') {a : Int} (h1 : a ≠ 1) (h2 : a ≠ 24) : c' a = c a := hf.row a (fun b => by unfold scF tkF; simp; omega)
theorem sm_row {g g' : hH} (hf : Fr smF g g') {a : Int} (h1 : a ≠ 192) : g' a = g a := hf.row a (fun b => by unfold smF txF nxC; simp; omega)
theorem tk_sc {a b : Int} (z : tkF a b = true) : scF a b = true := by unfold scF; rw [z]; rfl
theorem tx_sm {a b : Int} (z : txF a b = true) : smF a b = true := by unfold smF; rw [z]; rfl
theorem scF_lay1 : refT.all (fun q => !(scF q.1 q.2.1)) = true := by decide +kernel
theorem scF_lay2 : lenT.all (fun q => !(scF q.1 (-1))) = true := by decide +kernel
theorem smF_lay1 : refT.all (fun q => !(smF q.1 q.2.1)) = true := by decide +kernel
theorem smF_lay2 : lenT.all (fun q => !(smF q.1 (-1))) = true := by decide +kernel
/-- fields of the reader are another -/
theorem SC.up24 {j b v : Int} {c : hH} (h : SC n K A V j c) (hb : b = 2 ∨ b = 3 ∨ b = 4 ∨ b = 5) : SC n K A V j (hup c 24 b v) := h.per (by rcases hb with rfl | rfl | rfl | rfl <;> exact h.1.upF (by decide)) (by rw [hup_off (by decide)]) (fun b _ _ => by rw [hup_off (by decide)])
theorem SM.up {j b v : Int} {g : hH} (h : SM B L M n K A V E j g) (hb : b = 17 ∨ b = 19 ∨ b = 20 ∨ b = 21 ∨ b = 22) : SM B L M n K A V E j (hup g 192 b v) := h.per (by rcases hb with rfl | rfl | rfl | rfl | rfl <;> exact h.1.1.upF (by decide)) (by rw [hup_off (by decide)]) (by rw [hup_off (by decide)]) (fun x hx => hup_ne (by omega))
theorem DI.sc {c g c' g' : hH} (hD : DI c g) (hc : Fr scF c c') (hg : Fr smF g g') : DI c' g' := by
  unfold DI
  rw [sm_row hg (by decide)]
  exact DR.per hD (Or.inr rfl) (fun a a0 a1 => sc_row hc (by omega) (by omega)) (sm_row hg (by decide))
/-- a table and one column of it or two -/
theorem takeCols2 {c g : hH} {j : Int} (hC : Chain B L M n K A V E) (hc : SC n K A V j c) (hg : SM B L M n K A V E j g) (hD : DI c g) : ∃ b b1 c' g1, fX5_takeCols c 24 = some (b, c') ∧ fX12_takesTable g 192 = some (b1, g1) ∧ Fr scF c c' ∧ Fr smF g g1 ∧ ((b = 0 ∧ b1 = 0 ∧ ∃ k a, FRc k a c' ∧ FRm k a g1 ∧ 1 ≤ k) ∨ (b1 = 1 ∧ (0 ≤ g1 192 19 ∧ g1 192 19 < g 195 0) ∧ ∃ b2 g2, fX12_takesCols g1 192 (g1 192 19) 1 0 = some (b2, g2) ∧ Fr smF g1 g2 ∧ ((b = 0 ∧ b2 = 0 ∧ ∃ k a, FRc k a c' ∧ FRm k a g2 ∧ 1 ≤ k) ∨
   (b = 1 ∧ ∃ j', (c' 24 3 = g1 192 19 ∧ (0 ≤ c' 24 4 ∧ c' 24 4 < g 195 (4 + g1 192 19)) ∧ (-1 ≤ c' 24 5 ∧ c' 24 5 < g 195 (4 + g1 192 19))) ∧ SC n K A V j' c' ∧ j ≤ j' ∧ c' 1 8 = c 1 8 ∧ ((b2 = 1 ∧ g2 192 21 = c' 24 4 ∧ g2 192 22 = c' 24 5 ∧ SM B L M n K A V E j' g2) ∨ (b2 = 0 ∧ FRm 1 (A j') g2 ∧ 128 ≤ K j' ∧ K j' ≠ 131)))))) := by
  have Lc := hc.1
  obtain ⟨x, b1, c1, g1, h1, h2, h3⟩ := tableS hC hc hg hD
  unfold fX5_takeCols
  rw [ly_24_0 Lc, ly_24_1 Lc, h1]
  simp only [Option.bind_some, pput]
  rw [hup_at]
  rcases h3 with ⟨rfl, rfl, ⟨k, a, f1, f2, f3⟩, fc, fg⟩ | ⟨hx, rfl, e19, S1, S2, fc, fg, e8⟩
  · rw [if_pos rfl]
    unfold fX5_takeCols_b44 fX5_takeCols_b108
    simp only [pput, Option.bind_some]
    rw [hup_ne (show ¬ ((24 : Int) = 24 ∧ (4 : Int) = 5) by decide), hup_at, if_pos rfl, if_pos rfl]
    refine ⟨0, 0, _, g1, rfl, h2, ?_, fg.mono (fun a b z => tx_sm z), Or.inl ⟨rfl, rfl, k, a, ⟨?_, ?_⟩, f2, f3⟩⟩
    · exact (fc.mono (fun a b z => tk_sc z)).tr (((Fr.up (by decide)).tr (Fr.up (by decide))).tr (Fr.up (by decide)))
    · rw [hup_off (by decide), hup_off (by decide), hup_off (by decide)]; exact f1.1
    · rw [hup_off (by decide), hup_off (by decide), hup_off (by decide)]; exact f1.2
  · rw [if_neg (show ¬ x = -1 by omega)]
    have S1' : SC n K A V (nx n j) (hup c1 24 3 x) := S1.up24 (by omega)
    generalize hh : hup c1 24 3 x = h12 at S1' ⊢
    have fh : Fr scF c h12 := (fc.mono (fun a b z => tk_sc z)).tr (by rw [← hh]; exact Fr.up (by decide))
    have fg' : Fr smF g g1 := fg.mono (fun a b z => tx_sm z)
    have hD1 : DI h12 g1 := hD.sc fh fg'
    have e195 : g1 195 = g 195 := txF_row fg (by decide)
    have h243 : h12 24 3 = x := by rw [← hh, hup_at]
    have h18 : h12 1 8 = c 1 8 := by rw [← hh, hup_off (by decide)]; exact e8
    obtain ⟨y, b2, c2, g2, k1, k2, k3⟩ := colS hC S1' S2 hD1 hx.1 (by rw [e195]; exact hx.2)
    rw [ly_24_0 S1'.1, ly_24_1 S1'.1, k1]
    simp only [Option.bind_some]
    have rest : ∃ b c' b2 g2', fX5_takeCols_b44 c2 24 y 24 = some (b, c') ∧ fX12_takesCols g1 192 x 1 0 = some (b2, g2') ∧ Fr scF c c' ∧ Fr smF g1 g2' ∧ ((b = 0 ∧ b2 = 0 ∧ ∃ k a, FRc k a c' ∧ FRm k a g2' ∧ 1 ≤ k) ∨
   (b = 1 ∧ ∃ j', (c' 24 3 = x ∧ (0 ≤ c' 24 4 ∧ c' 24 4 < g 195 (4 + x)) ∧ (-1 ≤ c' 24 5 ∧ c' 24 5 < g 195 (4 + x))) ∧ SC n K A V j' c' ∧ j ≤ j' ∧ c' 1 8 = c 1 8 ∧ ((b2 = 1 ∧ g2' 192 21 = c' 24 4 ∧ g2' 192 22 = c' 24 5 ∧ SM B L M n K A V E j' g2') ∨ (b2 = 0 ∧ FRm 1 (A j') g2' ∧ 128 ≤ K j' ∧ K j' ≠ 131)))) := by
      have h4 := hD.2.2.1.1
      have hwx := hD.2.2.1.2.2.2.2.1 x hx.1 hx.2
      unfold fX12_takesCols fX5_takeCols_b44 fX5_takeCols_b108
      rw [k2]
      simp only [Option.bind_some, pput]
      rcases k3 with ⟨rfl, rfl, ⟨k, a, f1, f2, f3⟩, fc2, fg2⟩ | ⟨hy, rfl, e19', T1, T2, fc2, fg2, e82⟩
      · rw [hup_ne (show ¬ ((24 : Int) = 24 ∧ (4 : Int) = 5) by decide), hup_at, if_pos rfl, if_pos rfl, if_pos rfl]
        refine ⟨0, _, 0, g2, rfl, rfl, ?_, fg2.mono (fun a b z => tx_sm z), Or.inl ⟨rfl, rfl, k, a, ⟨?_, ?_⟩, f2, f3⟩⟩
        · exact fh.tr ((fc2.mono (fun a b z => tk_sc z)).tr ((Fr.up (by decide)).tr (Fr.up (by decide))))
        · rw [hup_off (by decide), hup_off (by decide)]; exact f1.1
        · rw [hup_off (by decide), hup_off (by decide)]; exact f1.2
      · rw [hup_ne (show ¬ ((24 : Int) = 24 ∧ (4 : Int) = 5) by decide), hup_at, if_neg (show ¬ y = -1 by omega)]
        simp only [if_true, if_neg (show ¬ (1 : Int) = 0 by decide)]
        rw [e195] at hy
        have T1' := (T1.up24 (b := 4) (v := y) (by omega)).up24 (b := 5) (v := -1) (by omega)
        generalize hu : hup (hup c2 24 4 y) 24 5 (-1) = u at T1' ⊢
        have u3 : u 24 3 = x := by rw [← hu, hup_ne (by decide), hup_ne (by decide), tkF_row fc2 (by decide)]; exact h243
        have u4 : u 24 4 = y := by rw [← hu, hup_ne (by decide), hup_at]
        have u5 : u 24 5 = -1 := by rw [← hu, hup_at]
        have u18 : u 1 8 = c 1 8 := by rw [← hu, hup_off (by decide), hup_off (by decide), e82]; exact h18
        have fu : Fr scF c u := fh.tr ((fc2.mono (fun a b z => tk_sc z)).tr (by rw [← hu]; exact (Fr.up (by decide)).tr (Fr.up (by decide))))
        rw [e19']
        have T2' := (T2.up (b := 21) (v := y) (by omega)).up (b := 22) (v := -1) (by omega)
        generalize hv : hup (hup g2 192 21 y) 192 22 (-1) = v at T2' ⊢
        have v21 : v 192 21 = y := by rw [← hv, hup_ne (by decide), hup_at]
        have v22 : v 192 22 = -1 := by rw [← hv, hup_at]
        have fv : Fr smF g1 v := (fg2.mono (fun a b z => tx_sm z)).tr (by rw [← hv]; exact (Fr.up (by decide)).tr (Fr.up (by decide)))
        have hDv : DI u v := hD.sc fu (fg'.tr fv)
        have v195 : v 195 = g 195 := by rw [sm_row fv (by decide), e195]
        generalize hj2 : nx n (nx n j) = j2 at T1' T2'
        have jj : j ≤ j2 := by rw [← hj2]; exact Int.le_trans nx_le nx_le
        have tk := SM.tok T2'
        have k5 : u 1 5 = K j2 := T1'.k
        have wto : (29807 : Int) = rs256 3 := by decide
        have fine : ∃ j', (u 24 3 = x ∧ (0 ≤ u 24 4 ∧ u 24 4 < g 195 (4 + x)) ∧ (-1 ≤ u 24 5 ∧ u 24 5 < g 195 (4 + x))) ∧ SC n K A V j' u ∧ j ≤ j' ∧ u 1 8 = c 1 8 ∧ (((1 : Int) = 1 ∧ v 192 21 = u 24 4 ∧ v 192 22 = u 24 5 ∧ SM B L M n K A V E j' v) ∨ ((1 : Int) = 0 ∧ FRm 1 (A j') v ∧ 128 ≤ K j' ∧ K j' ≠ 131)) := ⟨j2, ⟨u3, by rw [u4]; exact hy, by rw [u5]; omega⟩, T1', jj, u18, Or.inl ⟨rfl, by rw [v21, u4], by rw [v22, u5], T2'⟩⟩
        rw [ly_24_0 T1'.1, k5]
        by_cases z4 : K j2 = 4
        · rw [if_pos z4, if_pos (tk.2.2.2.2.2.1.mpr (Or.inl z4)), wto, isWordM T2' (by decide) (by decide), if_neg (show ¬ K j2 = 128 + 3 by omega)]
          simp only [Option.bind_some, if_true]
          obtain ⟨r, b, c3, g3, m1, m2, m3⟩ := colLook2 (u := y) T1' T2' hDv hx.1 (by rw [v195]; exact hx.2) (by omega)
          obtain ⟨w1', w2'⟩ := colFrom hx.1 (show x < 4 by omega)
          unfold fX12_takesCols_b51 fX9_takeCol
          rw [ly_24_1 T1'.1, u3, m1, w1', w2', row195 T2'.1.1 (by omega) (by omega)]
          simp only [Option.bind_some]
          rw [m2]
          simp only [Option.bind_some]
          rcases m3 with ⟨rfl, rfl, ⟨k, a, f1, f2, f3⟩, fc3, fg3⟩ | ⟨rfl, rfl, _, e3, f1, fc3, fg3, S3⟩ | ⟨hr, nu, rfl, e3, rfl, S3, fg3, _⟩
          · rw [if_pos rfl, if_pos rfl]
            simp only [Option.bind_some, pput]
            rw [hup_at, if_pos rfl]
            refine ⟨0, _, 0, g3, rfl, rfl, fu.tr ((fc3.mono (fun a b z => tk_sc z)).tr (Fr.up (by decide))), fv.tr (fg3.mono (fun a b z => tx_sm z)), Or.inl ⟨rfl, rfl, k, a, ⟨?_, ?_⟩, f2, f3⟩⟩
            · rw [hup_off (by decide)]; exact f1.1
            · rw [hup_off (by decide)]; exact f1.2
          · have v21' : g3 192 21 = y := by rw [fg3 192 21 (by decide)]; exact v21
            rw [if_pos rfl, if_neg (show ¬ (1 : Int) = 0 by decide), e3, v21', if_pos rfl]
            obtain ⟨g4, n1, n2, n3⟩ := badM (k := 3) S3
            rw [n1]
            simp only [Option.bind_some, pput]
            rw [hup_at, if_pos rfl]
            refine ⟨0, _, 0, g4, rfl, rfl, fu.tr ((fc3.mono (fun a b z => tk_sc z)).tr (Fr.up (by decide))), fv.tr ((fg3.tr n3).mono (fun a b z => tx_sm z)), Or.inl ⟨rfl, rfl, 3, A j2, ⟨?_, ?_⟩, n2, by decide⟩⟩
            · rw [hup_off (by decide)]; exact f1.1
            · rw [hup_off (by decide)]; exact f1.2
          · have v21' : g3 192 21 = y := by rw [fg3 192 21 (by decide)]; exact v21
            rw [if_neg (show ¬ r = -1 by omega), if_neg (show ¬ (1 : Int) = 0 by decide), e3, v21', if_neg nu]
            obtain ⟨c4, n1, n2, n3, n4, -⟩ := stepC hC T1'
            rw [n1]
            simp only [Option.bind_some, pput]
            rw [hup_at, if_neg (show ¬ r = -1 by omega)]
            obtain ⟨g5, o1, o2, o3⟩ := nextM hC (S3.up (b := 22) (v := r) (by omega))
            rw [o1]
            simp only [Option.bind_some]
            rw [v195] at hr
            refine ⟨1, _, 1, g5, rfl, rfl, fu.tr ((n3.mono (fun a b z => tk_sc z)).tr (Fr.up (by decide))), fv.tr ((fg3.mono (fun a b z => tx_sm z)).tr ((Fr.up (by decide)).tr (o3.mono (fun a b z => tx_sm (nx_tx z))))), Or.inr ⟨rfl, nx n j2, ⟨?_, ?_, ?_⟩, n2.up24 (by omega), Int.le_trans jj nx_le, ?_, Or.inl ⟨rfl, ?_, ?_, o2⟩⟩⟩
            · rw [hup_ne (by decide), tkF_row n3 (by decide)]; exact u3
            · rw [hup_ne (by decide), tkF_row n3 (by decide), u4]; exact hy
            · rw [hup_at]; omega
            · rw [hup_off (by decide), n4]; exact u18
            · rw [o3 192 21 (by decide), hup_ne (by decide), v21', hup_ne (by decide), tkF_row n3 (by decide), u4]
            · rw [o3 192 22 (by decide), hup_at, hup_at]
        · rw [if_neg z4, if_neg (show ¬ y = -1 by omega)]
          by_cases zw : 128 ≤ K j2 ∧ K j2 < 157
          · rw [if_pos (tk.2.2.2.2.2.1.mpr (Or.inr zw)), wto, isWordM T2' (by decide) (by decide)]
            simp only [Option.bind_some]
            by_cases zt : K j2 = 131
            · rw [if_pos (show K j2 = 128 + 3 by omega), if_neg (by decide)]
              exact ⟨1, u, 1, v, rfl, rfl, fu, fv, Or.inr ⟨rfl, fine⟩⟩
            · rw [if_neg (show ¬ K j2 = 128 + 3 by omega), if_pos rfl]
              obtain ⟨w1', w2'⟩ := colFrom hx.1 (show x < 4 by omega)
              unfold fX12_takesCols_b51
              rw [w1', w2', row195 T2'.1.1 (by omega) (by omega)]
              simp only [Option.bind_some]
              obtain ⟨b, g3, m1, m2, m3⟩ := looks_m (from_ := 20 + 4 + 4 * x) (m := v 195 (4 + x)) T2' 0 (fun y => absurd y z4)
              rcases m3 with ⟨_, rfl, f⟩ | ⟨y, _⟩ | ⟨y, _⟩
              · rw [m1]
                simp only [Option.bind_some, if_true]
                exact ⟨1, u, 0, g3, rfl, rfl, fu, fv.tr (m2.mono (fun a b z => tx_sm z)), Or.inr ⟨rfl, j2, ⟨u3, by rw [u4]; exact hy, by rw [u5]; omega⟩, T1', jj, u18, Or.inr ⟨rfl, f, zw.1, zt⟩⟩⟩
              · exact absurd y z4
              · exact absurd y z4
          · rw [if_neg (fun y => (tk.2.2.2.2.2.1.mp y).elim z4 zw)]
            exact ⟨1, u, 1, v, rfl, rfl, fu, fv, Or.inr ⟨rfl, fine⟩⟩
    obtain ⟨b, c', b2, g2', r1, r2, r3, r4, r5⟩ := rest
    refine ⟨b, 1, c', g1, r1, h2, r3, fg', Or.inr ⟨rfl, by rw [e19]; exact hx, b2, g2', by rw [e19]; exact r2, r4, ?_⟩⟩
    rw [e19]
    exact r5
end SIM
