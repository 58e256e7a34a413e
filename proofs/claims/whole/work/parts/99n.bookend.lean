/-! A BOOK ENDS, on two heaps -/
/-- what was told of the latest book -/
def T2 (c g : hH) : Prop := g 192 55 = 1 ∧ ∀ j, 0 ≤ j → j < 4 → c 76 j = g 217 j
def beC (a b : Int) : Bool := rlC a b || undC a b || (a == 76 && decide (0 ≤ b))
def beM (a b : Int) : Bool := bkF a b || stM a b || (a == 192 && b == 55)
theorem put76 {c : hH} (hL : Lay c) {i v : Int} (i0 : 0 ≤ i) (i1 : i < 4) : fX11_put c (c 0 13) i v = some (hup c 76 i v) := by
  rw [ly_0_13 hL]
  exact put_in i0 (by rw [ll_76 hL]; exact i1)
theorem lay76 {c : hH} (hL : Lay c) {i v : Int} (i0 : 0 ≤ i) : Lay (hup c 76 i v) := hL.upA (by decide) (by omega)
theorem firstBack {m x0 : hH} {wr : Int} (hL : Lay m) : lpO (fX12_book_s247 x0 192 wr) (m, 0) = some (wr, seg m 194 148 1091 (m 218)) := by
  have lay : ∀ i, Lay (seg m 194 148 i (m 218)) := fun i => (show Fr (fun a b => a == 194 && decide (0 ≤ b)) m (seg m 194 148 i (m 218)) from seg_fr (fun b b0 => by simp; exact b0) (by decide)).lay hL (by decide +kernel) (by decide +kernel)
  obtain ⟨r, r1, r2⟩ := cp_loop (f := fX12_book_s247 x0 192 wr) (h := m) 194 148 1091 (m 218) (fun r => r = (wr, seg m 194 148 1091 (m 218))) (by decide) (fun i h' i0 i1 e => by
    have Lx : Lay h' := by rw [e]; exact lay i
    unfold fX12_book_s247
    dsimp only
    rw [if_pos i1, ly_192_54 Lx, aget_in i0 (by rw [ll_218 Lx]; exact i1), e, seg_off (a := 218) (by decide)]
    simp only [Option.bind_some]
    rw [← e, ly_192_6 Lx, w32_id (x := 148 + i) (by omega) (by omega), aput_in (by omega) (by rw [ll_194 Lx]; omega), w1 (by omega) (by omega)]
    rfl) ⟨_, by
    unfold fX12_book_s247
    dsimp only
    rw [if_neg (by decide)], rfl⟩
  rw [r1, r2]
theorem bookEnd {c g : hH} {w k wr lv : Int} {X : Int → Int} (hR : R2 c g) (hU : U2 c g) (h65 : StH c 65 X) (hO : StOk X) (h218 : ∀ i, 0 ≤ i → i < 1091 → g 218 i = X (148 + i)) (hlo : ∀ i, i < 148 ∨ 1239 ≤ i → g 194 i = X i) (hlv : lv = 0 ∨ lv = 1) (t0 : g 217 0 = w) (t1 : g 217 1 = k) (k0 : 0 ≤ k) (k40 : k ≤ 40) (hw : (w = 0 ∧ wr = -1) ∨ (0 < w ∧ wr = k)) : ∃ r c' g', fX11_book_b99 c 0 lv w k = some (r, c') ∧ fX12_book_b194 g 192 lv wr = some (r, g') ∧ R2 c' g' ∧ U2 c' g' ∧ T2 c' g' ∧ Fr beC c c' ∧ Fr beM g g' := by
  have Lc := hR.1
  have Lg := hR.2.1
  have hs := hR.2.2.2.1
  have hres : ∀ x : hH, fX11_book_b197 x w k = some (wr, x) := fun x => by
    unfold fX11_book_b197
    rcases hw with ⟨a, b⟩ | ⟨a, b⟩
    · rw [if_pos a, b]
    · rw [if_neg (by omega), b]
  -- the class
  have La : Lay (hup c 76 0 w) := lay76 Lc (by decide)
  have Lb : Lay (hup (hup c 76 0 w) 76 1 k) := lay76 La (by decide)
  have Ld : Lay (hup (hup (hup c 76 0 w) 76 1 k) 76 2 (c 14 0)) := lay76 Lb (by decide)
  have f3 : Fr beC c (hup (hup (hup c 76 0 w) 76 1 k) 76 2 (c 14 0)) := ((Fr.up (by decide)).tr (Fr.up (by decide))).tr (Fr.up (by decide))
  have r76 : hup (hup (hup c 76 0 w) 76 1 k) 76 2 (c 14 0) 76 0 = w ∧ hup (hup (hup c 76 0 w) 76 1 k) 76 2 (c 14 0) 76 1 = k ∧ hup (hup (hup c 76 0 w) 76 1 k) 76 2 (c 14 0) 76 2 = c 14 0 := ⟨by rw [hup_ne (by omega), hup_ne (by omega), hup_at], by rw [hup_ne (by omega), hup_at], hup_at⟩
  have d14 : hup (hup c 76 0 w) 76 1 k 14 0 = c 14 0 := by rw [hup_off (by decide), hup_off (by decide)]
  have hcl : ∀ lv' : Int, fX11_book_b99 c 0 lv' w k = (fX10_scan (hup (hup (hup c 76 0 w) 76 1 k) 76 2 (c 14 0)) 57 4 14 1).bind fun q160 => (fX11_put q160.2 76 3 q160.1).bind fun h163 => if lv' = 0 then (fX8_copyFrom h163 (h163 0 2) (h163 0 9)).bind fun h178 => fX11_book_b197 h178 w k else if 0 < k then (fX11_keepForUndo h163 0 (h163 0 9)).bind fun h194 => fX11_book_b197 h194 w k else fX11_book_b197 h163 w k := fun lv' => by
    unfold fX11_book_b99
    rw [put76 Lc (by decide) (by decide)]
    simp only [Option.bind_some]
    rw [put76 La (by decide) (by decide)]
    simp only [Option.bind_some]
    rw [ly_0_2 Lb, ly_13_0 Lb, d14, put76 Lb (by decide) (by decide)]
    simp only [Option.bind_some]
    rw [ly_0_8 Ld, ly_52_3 Ld, ly_0_1 Ld, ly_0_2 Ld, ly_13_0 Ld, ly_0_13 Ld]
  generalize hd : hup (hup (hup c 76 0 w) 76 1 k) 76 2 (c 14 0) = d at hcl Ld f3 r76
  have dr : ∀ a, a ≠ 76 → d a = c a := fun a ha => by rw [← hd, hup_off ha, hup_off ha, hup_off ha]
  -- the model
  have Lm : Lay (hup g 217 2 (c 14 0)) := lay217 Lg (by decide)
  have Rd : R2 d (hup g 217 2 (c 14 0)) := (hR.c Ld (fun a _ _ => dr a (by omega))).g Lm (hup_off (by decide))
  obtain ⟨n, c1, g1, s1, s2, s3, s4, s5, s6, s7, s8, -⟩ := scanB Rd
  have L1 := s5.1
  have G1 := s5.2.1
  have hml : fX12_book_b194 g 192 lv wr = if lv = 1 then (if 0 < k then (fX12_stores (hup (hup g1 217 3 n) 192 55 1) 192 218).bind fun h238 => fX12_book_b241 h238 192 lv wr else fX12_book_b241 (hup (hup g1 217 3 n) 192 55 1) 192 lv wr) else fX12_book_b241 (hup (hup g1 217 3 n) 192 55 1) 192 lv wr := by
    unfold fX12_book_b194 fX12_violationsNow
    rw [rowsNow2 hR]
    simp only [Option.bind_some]
    rw [put217 Lg (by decide) (by decide)]
    simp only [Option.bind_some]
    rw [s2]
    simp only [Option.bind_some]
    rw [s3, ly_192_53 Lm, aput_in (by decide) (by rw [ll_217 G1]; decide)]
    simp only [Option.bind_some, pput]
    have L3 : Lay (hup (hup g1 217 3 n) 192 55 1) := (lay217 G1 (by decide)).upF (by decide)
    rw [get217 L3 (by decide) (by decide), ly_192_54 L3]
    simp only [Option.bind_some]
    rw [show hup (hup g1 217 3 n) 192 55 1 217 1 = k by rw [hup_off (by decide), hup_ne (by omega), s7.row 217 (fun b => by unfold rlM jmF jmC; simp), hup_ne (by omega)]; exact t1]
  have LG : Lay (hup (hup g1 217 3 n) 192 55 1) := (lay217 G1 (by decide)).upF (by decide)
  have g55 : hup (hup g1 217 3 n) 192 55 1 192 55 = 1 := hup_at
  have g217 : hup (hup g1 217 3 n) 192 55 1 217 0 = w ∧ hup (hup g1 217 3 n) 192 55 1 217 1 = k ∧ hup (hup g1 217 3 n) 192 55 1 217 2 = c 14 0 ∧ hup (hup g1 217 3 n) 192 55 1 217 3 = n := by
    rw [hup_off (by decide)]
    have : g1 217 = hup g 217 2 (c 14 0) 217 := s7.row 217 (fun b => by unfold rlM jmF jmC; simp)
    exact ⟨by rw [hup_ne (by omega), this, hup_ne (by omega)]; exact t0, by rw [hup_ne (by omega), this, hup_ne (by omega)]; exact t1, by rw [hup_ne (by omega), this, hup_at], hup_at⟩
  have fG : Fr beM g (hup (hup g1 217 3 n) 192 55 1) := (((Fr.up (by decide)).tr (s7.mono (fun a b z => by unfold beM bkF; rw [z]; rfl))).tr (Fr.up (by decide))).tr (Fr.up (by decide))
  generalize hy : hup (hup g1 217 3 n) 192 55 1 = y at hml LG g55 g217 fG
  have yr : ∀ a, a ≠ 192 → a ≠ 217 → y a = g1 a := fun a a1 a2 => by rw [← hy, hup_off a1, hup_off a2]
  have y194 : y 194 = g 194 := by rw [yr 194 (by decide) (by decide), s8, hup_off (by decide)]
  have gr : ∀ a, 206 < a → a ≠ 217 → y a = g a := fun a ha h7 => by rw [yr a (by omega) h7, rlM_row s7 (by omega), hup_off h7]
  have y44 : y 192 44 = g 192 44 := by rw [← hy, hup_ne (by omega), hup_off (by decide), s7 192 44 (by decide), hup_off (by decide)]
  have Lx : Lay (hup c1 76 3 n) := lay76 L1 (by decide)
  have hcl2 : ∀ lv' : Int, fX11_book_b99 c 0 lv' w k = if lv' = 0 then (fX8_copyFrom (hup c1 76 3 n) 13 65).bind fun h178 => fX11_book_b197 h178 w k else if 0 < k then (fX11_keepForUndo (hup c1 76 3 n) 0 65).bind fun h194 => fX11_book_b197 h194 w k else fX11_book_b197 (hup c1 76 3 n) w k := fun lv' => by
    rw [hcl lv', s1]
    simp only [Option.bind_some]
    rw [put_in (by decide) (by rw [ll_76 L1]; decide)]
    simp only [Option.bind_some]
    rw [ly_0_2 Lx, ly_0_9 Lx]
  have x76 : hup c1 76 3 n 76 0 = w ∧ hup c1 76 3 n 76 1 = k ∧ hup c1 76 3 n 76 2 = c 14 0 ∧ hup c1 76 3 n 76 3 = n := by
    have : c1 76 = d 76 := rlC_row s6 (by omega)
    exact ⟨by rw [hup_ne (by omega), this]; exact r76.1, by rw [hup_ne (by omega), this]; exact r76.2.1, by rw [hup_ne (by omega), this]; exact r76.2.2, hup_at⟩
  have fX : Fr beC c (hup c1 76 3 n) := (f3.tr (s6.mono (fun a b z => by unfold beC; rw [z]; rfl))).tr (Fr.up (by decide))
  generalize hx : hup c1 76 3 n = x at hcl2 Lx x76 fX
  have xr : ∀ a, a ≠ 76 → x a = c1 a := fun a ha => by rw [← hx, hup_off ha]
  have xc : ∀ a, a < 13 ∨ (21 < a ∧ a < 52) ∨ 64 < a → a ≠ 76 → x a = c a := fun a ha h7 => by rw [xr a h7, rlC_row s6 ha, dr a h7]
  have Rx : R2 x y := (s5.c Lx (fun a _ _ => xr a (by omega))).g LG (by rw [y194, s8, hup_off (by decide)])
  have Ux : U2 x y := hU.of (by rw [xc 0 (by omega) (by decide)]) (fun a a0 a1 h6 h7 => xc a (by omega) h6) y44 (gr 212 (by decide) (by decide)) (fun i _ => by rw [y194])
  have hT2 : ∀ c' g' : hH, c' 76 = x 76 → g' 217 = y 217 → g' 192 55 = 1 → T2 c' g' := fun c' g' e1 e2 e3 => ⟨e3, fun j j0 j1 => by
    rw [e1, e2]
    rcases (show j = 0 ∨ j = 1 ∨ j = 2 ∨ j = 3 by omega) with rfl | rfl | rfl | rfl
    · rw [x76.1, g217.1]
    · rw [x76.2.1, g217.2.1]
    · rw [x76.2.2.1, g217.2.2.1]
    · rw [x76.2.2.2, g217.2.2.2]⟩
  have x65 : StH x 65 X := StH.sameL (fun a a0 a1 => xc a (by omega) (by omega)) h65
  rcases hlv with rfl | rfl
  · -- only judged
    obtain ⟨e, e1, e2, e3⟩ := copyState_ok (s := 65) (d := 13) (stAt_65 Lx) (stAt_13 Lx) (by decide) x65
    have fb := firstBack (x0 := y) (wr := wr) LG
    have Le : Lay e := e3.lay Lx stC13_lay1 stC13_lay2
    have Lz : Lay (seg y 194 148 1091 (y 218)) := lay_seg194 LG (by decide)
    have z194 : seg y 194 148 1091 (y 218) 194 = X := by
      funext i
      by_cases q : 148 ≤ i ∧ i < 1239
      · rw [seg_in q.1 (by omega), gr 218 (by decide) (by decide), h218 _ (by omega) (by omega)]
        congr 1
        omega
      · rw [seg_out (by omega), y194, hlo i (by omega)]
    refine ⟨wr, e, seg y 194 148 1091 (y 218), ?_, ?_, ?_, ?_, hT2 _ _ (stC_ec e3 (by omega)) (seg_off (by decide)) (by rw [seg_off (by decide)]; exact g55), fX.tr (e3.mono (fun a b z => by unfold beC rlC; rw [z]; simp)), fG.tr (seg_fr2 (fun b b0 b1 => by unfold beM bkF rlM jmF; simp; omega))⟩
    · rw [hcl2 0, if_pos rfl, e1]
      exact hres e
    · rw [hml, if_neg (by decide)]
      unfold fX12_book_b241
      rw [if_pos rfl, fb]
    · refine Rx.mk2 Le Lz (fun a a0 a1 => stC_ec e3 (by omega)) (fun i i0 i1 => seg_out (by omega)) ?_ ?_
      · rw [z194]; exact e2
      · rw [z194]; exact hO
    · exact Ux.of (by rw [stC_ec e3 (by omega)]) (fun a a0 a1 _ _ => stC_ec e3 (by omega)) (by rw [seg_off (by decide)]) (seg_off (by decide)) (fun i hi => seg_out (by omega))
  · -- lived
    by_cases kp : 0 < k
    · obtain ⟨e, z, e1, e2, e3, e4, e5⟩ := keepU (A := 218) Lx LG Ux x65 hO (ll_218 LG) ⟨by decide, by decide⟩ (fun i _ i1 => by rw [y194]; exact hlo i (Or.inl i1)) (fun i i0 i1 => by rw [gr 218 (by decide) (by decide)]; exact h218 i i0 i1) (by rw [y194]; exact hs.1.2) (by decide)
      have Le : Lay e := e3.lay Lx undC_lay1 undC_lay2
      have Lz : Lay z := e4.lay LG stM_lay1 stM_lay2
      refine ⟨wr, e, z, ?_, ?_, (Rx.c Le (fun a a0 a1 => e3.row a (fun b => undC_out (by omega)))).g Lz (stM_row e4 (by decide) (by decide)), e5, hT2 _ _ (e3.row 76 (fun b => by unfold undC; simp)) (stM_row e4 (by decide) (by decide)) (by rw [e4 192 55 (by decide)]; exact g55), fX.tr (e3.mono (fun a b z => by unfold beC; rw [z]; simp)), fG.tr (e4.mono (fun a b z => by unfold beM; rw [z]; simp))⟩
      · rw [hcl2 1, if_neg (by decide), if_pos kp, e1]
        exact hres e
      · rw [hml, if_pos rfl, if_pos kp, e2]
        simp only [Option.bind_some]
        unfold fX12_book_b241
        rw [if_neg (by decide)]
    · refine ⟨wr, x, y, ?_, ?_, Rx, Ux, hT2 _ _ rfl rfl g55, fX, fG⟩
      · rw [hcl2 1, if_neg (by decide), if_neg kp]
        exact hres x
      · rw [hml, if_pos rfl, if_neg kp]
        unfold fX12_book_b241
        rw [if_neg (by decide)]
