/-! THE CALL tag -/
theorem tagCells {c0 g0 : hH} {i q t W : Int} {S : Int → Int} (hA : RowsAt c0 14) (hR : RowsS c0 14 S) (hPA : SchemaAt c0 4) (hP : SchR c0 4 S) (hs : SOk S) (hv : SVal S) (i0 : 0 ≤ i) (i1 : i < c0 14 0) (hq : c0 15 i = q) (ht : S (249 + q) = t) (hW : S (4 + t) = W) (hg : g0 194 = S) (x0 x1 : hH) : ∀ (d : Nat) (l : Int) (L : List Int) (c g : hH), l + d = W → 0 ≤ l → L.length ≤ 10 + 3 * l → Fr tgC c0 c → Fr tgM g0 g → WC c L → WM g L → ∃ r c' g' L', lpO (fX11_tag_s62 x0 0 i t) (c, l) = some (r, c') ∧ lpO (fX12_tag_s46 x1 192 q) (g, l) = some (r, g') ∧ Fr tgC c0 c' ∧ Fr tgM g0 g' ∧ WC c' L' ∧ WM g' L' := by
  have hn : c0 14 0 ≤ 40 := hR.2.1
  obtain ⟨m0, m1, m2, m3, m4⟩ := hR.2.2.1 i i0 i1
  rw [show (14 : Int) + 1 = 15 from rfl, hq] at m0 m1 m2 m3 m4
  obtain ⟨t0, t1⟩ := (hv q m0 m1 m2).1
  rw [ht] at t0 t1
  have hw := hs.2.2.2.2.1 t t0 t1
  have h0 := hs.1
  rw [hW] at hw
  intro d
  induction d with
  | zero =>
    intro l L c g hd l0 hL fc fg wc wm
    have hwd := width_ok (p := 4) (schAt4 wc.1) (SchR.rows (h := c0) (h' := c) (fun k k0 k1 => tgC_row fc (by omega) (by omega)) hP) hs t
    have r : g 194 = S := by rw [tgM_row fg (by decide) (by decide)]; exact hg
    refine ⟨L.length, c, g, L, lpO_inr ?_, lpO_inr ?_, fc, fg, wc, wm⟩
    · unfold fX11_tag_s62
      dsimp only
      rw [ly_0_1 wc.1, hwd, if_pos ⟨t0, t1⟩, hW]
      simp only [Option.bind_some]
      rw [if_neg (by omega), wc.2.1]
    · unfold fX12_tag_s46
      dsimp only
      rw [w32_id (x := 249 + q) (by omega) (by omega), sgk wm.1 (by omega) (by omega), r, ht]
      simp only [Option.bind_some]
      rw [w32_id (x := 4 + t) (by omega) (by omega), sgk wm.1 (by omega) (by omega), r, hW]
      simp only [Option.bind_some]
      rw [if_neg (by omega), wm.2.1]
  | succ d ih =>
    intro l L c g hd l0 hL fc fg wc wm
    have hwd := width_ok (p := 4) (schAt4 wc.1) (SchR.rows (h := c0) (h' := c) (fun k k0 k1 => tgC_row fc (by omega) (by omega)) hP) hs t
    have r : g 194 = S := by rw [tgM_row fg (by decide) (by decide)]; exact hg
    obtain ⟨vb, -⟩ := (hv q m0 m1 m2).2 l l0 (by omega)
    obtain ⟨c1, a1, a2, a3⟩ := wbC (b := 32) wc (by omega) (by decide) (by decide)
    have f1 := fc.tr a3
    have hval : fX3_value c1 14 i l = some (S (348 + (4 * q + l))) := by
      have e := m4 l l0 (by omega)
      rw [value_in (r := 14) (stAt_13 a2.1).2.2.1 i0 (by omega) l0 (by omega), tgC_row f1 (by decide) (by decide), e]
    obtain ⟨c2, b1, b2, b3⟩ := wnC (v := S (348 + (4 * q + l))) a2 (by rw [List.length_append]; simp; omega) vb.1 vb.2
    obtain ⟨g2, d1, d2, d3⟩ := wnM (v := S (348 + (4 * q + l))) wm (by omega) vb.1 vb.2
    have hcs : fX11_tag_s62 x0 0 i t (c, l) = some (.inl (c2, l + 1)) := by
      unfold fX11_tag_s62
      dsimp only
      rw [ly_0_1 wc.1, hwd, if_pos ⟨t0, t1⟩, hW]
      simp only [Option.bind_some]
      rw [if_pos (by omega), a1]
      simp only [Option.bind_some]
      rw [ly_0_2 a2.1, ly_13_0 a2.1, hval]
      simp only [Option.bind_some]
      rw [b1, w1 (by omega) (by omega)]
      rfl
    have hms : fX12_tag_s46 x1 192 q (g, l) = some (.inl (g2, l + 1)) := by
      unfold fX12_tag_s46
      dsimp only
      rw [w32_id (x := 249 + q) (by omega) (by omega), sgk wm.1 (by omega) (by omega), r, ht]
      simp only [Option.bind_some]
      rw [w32_id (x := 4 + t) (by omega) (by omega), sgk wm.1 (by omega) (by omega), r, hW]
      simp only [Option.bind_some]
      rw [if_pos (by omega), cellOf_ok wm.1 m0 m1 l0 (by omega), r]
      simp only [Option.bind_some]
      rw [d1, w1 (by omega) (by omega)]
      rfl
    have nl := numB_len (S (348 + (4 * q + l)))
    obtain ⟨rr, c', g', L', y1, y2, y3⟩ := ih (l + 1) (L ++ [32] ++ numB (S (348 + (4 * q + l)))) c2 g2 (by omega) (by omega) (by rw [List.length_append, List.length_append]; simp; omega) (f1.tr b3) (fg.tr d3) b2 d2
    exact ⟨rr, c', g', L', by rw [lpO_inl hcs]; exact y1, by rw [lpO_inl hms]; exact y2, y3⟩
def tgA (a b : Int) : Bool := tgC a b || tgM a b || (a == 192 && b == 0)
theorem tag_ok {h : hH} (hL : Lay h) (h1 : SchI h) (h2 : StI h) (hn : NamR h h 4 0 (h 194)) (hT : TagI h) (q : Int) : ∃ r k e, fX11_tag h 0 q = some (r, k) ∧ fX12_tag k 192 q = some (r, e) ∧ Lay e ∧ Fr tgA h e ∧ TagI e := by
  have hc := ctx14 hL h1 h2
  have hs := h1.2
  have h0 := hs.1
  have hv := h2.2.2.2.1
  rcases slotOf_al hc.1 hc.2.1 q with ⟨q0, q1, q2, i, i0, i1, i2, i3⟩ | ⟨n, i3⟩
  · obtain ⟨m0, m1, m2, m3, m4⟩ := h2.rows.2.2.1 i i0 i1
    rw [show (14 : Int) + 1 = 15 from rfl, show h 15 i = q from i2] at m3
    obtain ⟨t0, t1⟩ := (hv q q0 q1 q2).1
    have hn40 : h 14 0 ≤ 40 := h2.rows.2.1
    have htab : fX3_tableAt h 14 i = some (h 194 (249 + q)) := by
      rw [tableAt_in (r := 14) hc.1 hn40 i0 i1]
      rw [show (14 : Int) + 2 = 16 from rfl] at m3 ⊢
      rw [m3]
    generalize ht : h 194 (249 + q) = t at t0 t1 htab
    have hw := hs.2.2.2.2.1 t t0 t1
    obtain ⟨ls, l7, lok, e32, e256⟩ := hn.1 t t0 t1
    -- the class
    have La : Lay (hup h 0 15 0) := hL.upF (by decide)
    have W0 : WC (hup h 0 15 0) [] := ⟨La, hup_at, by decide, fun i x hx => by simp at hx⟩
    have fa : Fr tgC h (hup h 0 15 0) := Fr.up (by decide)
    obtain ⟨c1, a1, a2, a3⟩ := writeWord_ok W0 lok l7
    have wl := wrdB_len ls
    obtain ⟨c2, b1, b2, b3⟩ := wbC (b := 32) a2 (by omega) (by decide) (by decide)
    obtain ⟨c3, d1, d2, d3⟩ := wnC (v := q) b2 (by rw [List.length_append]; simp; omega) (by omega) (by omega)
    have fc3 : Fr tgC h c3 := fa.tr (a3.tr (b3.tr d3))
    have hcl : fX11_tag h 0 q = lpO (fX11_tag_s62 c3 0 i t) (c3, 0) := by
      unfold fX11_tag fX4_name
      rw [ly_0_2 hL, ly_13_0 hL, i3]
      simp only [Option.bind_some]
      rw [if_neg (by omega), htab]
      simp only [Option.bind_some, pput]
      rw [ly_0_1 La, if_neg (by omega), ly_4_4 La, if_pos (by rw [ll_5 La]; omega), aget_in t0 (by rw [ll_5 La]; omega), hup_off (a := 5) (by decide)]
      simp only [Option.bind_some]
      rw [show (4 : Int) + 1 = 5 from rfl] at e32
      rw [e32, a1]
      simp only [Option.bind_some]
      rw [b1]
      simp only [Option.bind_some]
      rw [d1]
      rfl
    -- the model on any heap with the rows of h
    have mod : ∀ K : hH, Lay K → (∀ a, 191 < a → K a = h a) → ∃ L g3, WM g3 L ∧ L = wrdB ls ++ [32] ++ numB q ∧ Fr (fun a b => tgM a b || (a == 192 && b == 0)) K g3 ∧ fX12_tag K 192 q = lpO (fX12_tag_s46 g3 192 q) (g3, 0) ∧ g3 194 = h 194 := fun K LK eK => by
      have L1 : Lay (Th K) := th_lay LK
      have L2 : Lay (hup (Th K) 192 50 0) := L1.upF (by decide)
      have V0 : WM (hup (Th K) 192 50 0) [] := ⟨L2, hup_at, fun i x hx => by simp at hx⟩
      obtain ⟨g1, u1, u2, u3⟩ := spells_ok V0 lok l7
      obtain ⟨g2, v1, v2, v3⟩ := wnM (v := q) u2 (by omega) (by omega) (by omega)
      have r194 : hup (Th K) 192 50 0 194 = h 194 := by rw [hup_off (by decide), th_off (by decide), eK 194 (by decide)]
      refine ⟨_, g2, v2, rfl, ((Fr.up (by decide)).tr (Fr.up (by decide))).tr ((u3.tr v3).mono (fun a b z => by rw [z]; rfl)), ?_, by rw [tgM_row v3 (by decide) (by decide), tgM_row u3 (by decide) (by decide)]; exact r194⟩
      unfold fX12_tag
      rw [th_p]
      simp only [Option.bind_some]
      rw [isRow_ok L1, th_off (a := 194) (by decide), eK 194 (by decide), if_pos ⟨q0, q1, q2⟩]
      simp only [Option.bind_some, pput]
      rw [if_neg (show ¬ (1 : Int) = 0 by decide), w32_id (x := 249 + q) (by omega) (by omega), sgk L2 (by omega) (by omega), r194, ht]
      simp only [Option.bind_some]
      rw [ly_192_10 L2, aget_in t0 (by rw [ll_198 L2]; omega), hup_off (a := 198) (by decide), th_off (a := 198) (by decide), eK 198 (by decide)]
      simp only [Option.bind_some]
      rw [show (0 : Int) + t = t by omega] at e256
      rw [e256, u1]
      simp only [Option.bind_some]
      rw [v1]
      rfl
    -- the class's end, first with the model on h
    obtain ⟨L, g3, V3, hLL, -, -, g3s⟩ := mod h hL (fun _ _ => rfl)
    have hc3 : ∀ a, a ≠ 0 → a ≠ 77 → c3 a = h a := fun a a1 a2 => tgC_row fc3 a1 a2
    have key : ∀ g3 : hH, WM g3 (wrdB ls ++ [32] ++ numB q) → g3 194 = h 194 → ∃ r c' g' L', lpO (fX11_tag_s62 c3 0 i t) (c3, 0) = some (r, c') ∧ lpO (fX12_tag_s46 g3 192 q) (g3, 0) = some (r, g') ∧ Fr tgC c3 c' ∧ Fr tgM g3 g' ∧ WC c' L' ∧ WM g' L' := fun g3 V3 es => by
      have nl := numB_len q
      have hA3 : RowsAt c3 14 := (stAt_13 d2.1).2.2.1
      have hR3 : RowsS c3 14 (h 194) := RowsR.same h2.rows (by rw [hc3 14 (by decide) (by decide)]) (hc3 _ (by decide) (by decide)) (hc3 _ (by decide) (by decide)) (hc3 _ (by decide) (by decide))
      exact tagCells (S := h 194) (W := h 194 (4 + t)) hA3 hR3 (schAt4 d2.1) (SchR.rows (h := h) (fun k k0 k1 => hc3 _ (by omega) (by omega)) h1.1) hs hv i0 (by rw [hc3 14 (by decide) (by decide)]; exact i1) (by rw [hc3 15 (by decide) (by decide)]; exact i2) ht rfl es c3 g3 (h 194 (4 + t)).toNat 0 _ c3 g3 (by omega) (Int.le_refl _) (by rw [List.length_append, List.length_append]; simp; omega) Fr.rf Fr.rf d2 V3
    obtain ⟨r, k, gq, Lq, y1, _, y3, _, y5, _⟩ := key g3 (by rw [← hLL]; exact V3) g3s
    have fk : Fr tgC h k := fc3.tr y3
    obtain ⟨L2, g4, V4, hL4, f4, m4', g4s⟩ := mod k y5.1 (fun a ha => tgC_row fk (by omega) (by omega))
    obtain ⟨r', k', e, L', z1, z2, z3, z4, z5, z6⟩ := key g4 (by rw [← hL4]; exact V4) g4s
    have ee := y1.symm.trans z1
    have e1 : r = r' ∧ k = k' := by injection ee with x; injection x with x y; exact ⟨x, y⟩
    obtain ⟨rfl, rfl⟩ := e1
    have fe : Fr (fun a b => tgM a b || (a == 192 && b == 0)) k e := f4.tr (z4.mono (fun a b z => by rw [z]; rfl))
    have er : ∀ a, a < 192 → e a = k a := fun a ha => fe.row a (fun b => by unfold tgM; simp; omega)
    refine ⟨r, k, e, hcl.trans y1, m4'.trans z2, z6.1, (fk.mono (fun a b z => by unfold tgA; rw [z]; rfl)).tr (fe.mono (fun a b z => by
      unfold tgA
      simp only [Bool.or_eq_true] at z ⊢
      rcases z with z | z
      · exact Or.inl (Or.inr z)
      · exact Or.inr z)), ?_⟩
    obtain ⟨w1', w2', w3', w4'⟩ := z5
    obtain ⟨-, v2', v3'⟩ := z6
    unfold TagI
    rw [er 0 (by decide), er 77 (by decide), w2', v2']
    refine ⟨rfl, by omega, by omega, fun i i0 i1 => ?_⟩
    have hi : i.toNat < L'.length := by omega
    have hx : L'[i.toNat]? = some L'[i.toNat] := List.getElem?_eq_getElem hi
    have p1 := w4' _ _ hx
    have p2 := v3' _ _ hx
    rw [show ((i.toNat : Nat) : Int) = i by omega] at p1 p2
    rw [p1.1, p2]
    exact ⟨rfl, p1.2⟩
  · refine ⟨-1, h, Th h, ?_, ?_, th_lay hL, Fr.up (by decide), ?_⟩
    · unfold fX11_tag
      rw [ly_0_2 hL, ly_13_0 hL, i3]
      simp only [Option.bind_some]
      rw [if_pos trivial]
    · unfold fX12_tag
      rw [th_p]
      simp only [Option.bind_some]
      rw [isRow_ok (th_lay hL), th_off (a := 194) (by decide), if_neg (show ¬ (0 ≤ q ∧ q < 99 ∧ h 194 (150 + q) = 1) from n)]
      simp only [Option.bind_some]
      rw [if_pos trivial]
    · unfold TagI
      rw [th_ne (by decide), th_off (a := 0) (by decide), th_off (a := 77) (by decide), th_off (a := 216) (by decide)]
      exact hT
