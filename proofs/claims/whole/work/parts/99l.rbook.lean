/-! READING A BOOK, on two heaps -/
section SIM
variable {B : Int → Int} {L M n : Int} {K A V E : Int → Int}
theorem bk_w : (422608071022 : Int) = rs256 18 ∧ (109330228406644 : Int) = rs256 19 ∧ (1650549611 : Int) = rs256 20 := by decide +kernel
theorem bind_eta {α β : Type} {o : Option (α × β)} : (o.bind fun q => some (q.1, q.2)) = o := by cases o <;> rfl
abbrev stw (k : Int) : Prop := k = 141 ∨ k = 142 ∨ k = 145
abbrev trw (k : Int) : Prop := k = 146 ∨ k = 147 ∨ k = 148
/-- the model's line of a book -/
noncomputable def bkM (g : hH) (to k : Int) : Option (Int × hH) := if stw k then fX12_takesStatement g 192 to else (aput g 197 to (k - 143)).bind fun h143 => (fX12_next h143 192).bind fun h145 => some (1, h145)
theorem bookLine_eq {g : hH} {j m : Int} (hg : SM B L M n K A V E j g) (hm : g 192 52 = m) (m0 : 0 ≤ m) (m1 : m ≤ 40) : fX12_bookLine g 192 = if stw (K j) ∨ trw (K j) then (if m = 40 then fX12_bad g 192 4 else bkM g (20 * m) (K j)) else fX12_bad g 192 1 := by
  have e20 : w32 (20 * m) = 20 * m := w32_id (by omega) (by omega)
  unfold fX12_bookLine fX12_bookLine_b38 fX12_bookLine_b43 fX12_bookLine_b84 fX12_bookLine_b143 bkM
  rw [no_w.2.2.2.1, no_w.2.2.2.2.1, no_w.2.2.2.2.2, bk_w.1, bk_w.2.1, bk_w.2.2, isWordM hg (by decide) (by decide), isWordM hg (by decide) (by decide), isWordM hg (by decide) (by decide), isWordM hg (by decide) (by decide), isWordM hg (by decide) (by decide), isWordM hg (by decide) (by decide), hm, e20, ly_192_9 hg.1.1]
  simp only [Option.bind_some, bind_eta]
  by_cases a1 : K j = 146
  · rw [if_pos (show K j = 128 + 18 by omega), if_neg (show ¬ (1 : Int) = 0 by decide), if_neg (show ¬ (1 : Int) = 0 by decide), if_neg (show ¬ (1 : Int) = 0 by decide), if_neg (show ¬ (1 : Int) = 0 by decide), if_pos (show stw (K j) ∨ trw (K j) from Or.inr (Or.inl a1)), if_neg (show ¬ stw (K j) by omega), a1]
    rfl
  · rw [if_neg (show ¬ K j = 128 + 18 by omega), if_pos (show (0 : Int) = 0 from rfl)]
    by_cases a2 : K j = 147
    · rw [if_pos (show K j = 128 + 19 by omega), if_neg (show ¬ (1 : Int) = 0 by decide), if_neg (show ¬ (1 : Int) = 0 by decide), if_neg (show ¬ (1 : Int) = 0 by decide), if_neg (show ¬ (1 : Int) = 0 by decide), if_pos (show stw (K j) ∨ trw (K j) from Or.inr (Or.inr (Or.inl a2))), if_neg (show ¬ stw (K j) by omega), if_pos (show (0 : Int) = 0 from rfl), a2]
      rfl
    · rw [if_neg (show ¬ K j = 128 + 19 by omega), if_pos (show (0 : Int) = 0 from rfl)]
      by_cases a3 : K j = 148
      · rw [if_pos (show K j = 128 + 20 by omega), if_neg (show ¬ (1 : Int) = 0 by decide), if_neg (show ¬ (1 : Int) = 0 by decide), if_neg (show ¬ (1 : Int) = 0 by decide), if_pos (show stw (K j) ∨ trw (K j) from Or.inr (Or.inr (Or.inr a3))), if_neg (show ¬ stw (K j) by omega), if_pos (show (0 : Int) = 0 from rfl), if_pos (show (0 : Int) = 0 from rfl), a3]
        rfl
      · rw [if_neg (show ¬ K j = 128 + 20 by omega), if_pos (show (0 : Int) = 0 from rfl), if_pos (show (0 : Int) = 0 from rfl)]
        by_cases s : stw (K j)
        · rw [if_pos (show stw (K j) ∨ trw (K j) from Or.inl s), if_pos s]
          by_cases b1 : K j = 141
          · rw [if_pos (show K j = 128 + 13 by omega), if_neg (show ¬ (1 : Int) = 0 by decide), if_pos (show (0 : Int) = 0 from rfl)]
            simp only [if_true]
          · rw [if_neg (show ¬ K j = 128 + 13 by omega), if_pos (show (0 : Int) = 0 from rfl)]
            by_cases b2 : K j = 142
            · rw [if_pos (show K j = 128 + 14 by omega), if_neg (show ¬ (1 : Int) = 0 by decide), if_pos (show (0 : Int) = 0 from rfl)]
              simp only [if_true]
            · rw [if_neg (show ¬ K j = 128 + 14 by omega), if_pos (show (0 : Int) = 0 from rfl), if_pos (show K j = 128 + 17 by omega), if_neg (show ¬ (1 : Int) = 0 by decide), if_pos (show (0 : Int) = 0 from rfl)]
              simp only [if_true]
        · rw [if_neg (show ¬ (stw (K j) ∨ trw (K j)) by omega), if_neg (show ¬ K j = 128 + 13 by omega), if_pos (show (0 : Int) = 0 from rfl), if_neg (show ¬ K j = 128 + 14 by omega), if_pos (show (0 : Int) = 0 from rfl), if_neg (show ¬ K j = 128 + 17 by omega), if_pos (show (0 : Int) = 0 from rfl)]
          simp only [if_true]
theorem bkLine2 {c g : hH} {i j : Int} (hC : Chain B L M n K A V E) (i0 : 0 ≤ i) (i1 : i < 40) (hc : SC n K A V j c) (hg : SM B L M n K A V E j g) (hD : PI c g) (e8 : c 1 8 = 0) (hi : c 37 2 = i) (hk : stw (K j) ∨ trw (K j)) : ∃ c1 b b' c' g', fX9_step c 1 = some c1 ∧ Lay c1 ∧ fX2_readLine c1 37 (K j) = some (b, c') ∧ bkM g (20 * i) (K j) = some (b', g') ∧ Fr lnC2 c c' ∧ Fr lnM g g' ∧ ((b = 0 ∧ b' = 0 ∧ FF c' g') ∨ (b = 1 ∧ c' 37 2 = i + 1 ∧ ∃ j', SC n K A V j' c' ∧ j + 1 ≤ j' ∧ c' 1 8 = 0 ∧ ((b' = 1 ∧ SM B L M n K A V E j' g' ∧ LnR c' g' i ∧ LO2 i (20 * i) c g c' g') ∨ (b' = 0 ∧ FRm 1 (A j') g' ∧ K j' ≠ 59 ∧ K j' ≠ 0)))) := by
  by_cases s : stw (K j)
  · obtain ⟨c1, b, b', c', g', k1, k2, k3, k4, k5, k6, k7⟩ := stmt2 (i := i) (to := 20 * i) hC i0 i1 (by omega) (by omega) hc hg hD e8 hi s
    refine ⟨c1, b, b', c', g', k1, k2, k3, by unfold bkM; rw [if_pos s]; exact k4, k5, k6, ?_⟩
    rcases k7 with k7 | ⟨a1, a2, j', a3, a4, a5, a6⟩
    · exact Or.inl k7
    · refine Or.inr ⟨a1, a2, j', a3, a4, a5, ?_⟩
      rcases a6 with ⟨x1, x2, x3, x4, x5⟩ | a6
      · have r : g' 194 = g 194 := lnM_row k6 (by decide) (by decide)
        exact Or.inl ⟨x1, x2, ⟨⟨i0, i1⟩, Or.inl ⟨by rw [r]; exact x3, by rw [r]; exact x4⟩⟩, x5⟩
      · exact Or.inr a6
  · have t : trw (K j) := hk.resolve_left s
    obtain ⟨c1, k1, k2, k3, k4, -⟩ := stepC hC hc
    have nj := nx_s hC hc.2.2.2.2 (by omega) (by omega)
    have U1 := hg.up197 (b := 20 * i) (v := K j - 143) (by omega)
    obtain ⟨g1, m1, m2, m3⟩ := nextM hC U1
    have c137 : c1 37 2 = i := by rw [tkF_row k3 (by decide)]; exact hi
    obtain ⟨c3, y1, y2, y3, y4, y5, y6, y7⟩ := startLine_ok (i := i) (w := K j) (t := -1) k2.1 i0 i1
    have fc3 : Fr lnC c1 c3 := y2.mono (fun a b z => by unfold lnC; simp at z ⊢; omega)
    have S3 : SC n K A V (nx n j) c3 := k2.per (fc3.lay k2.1 lnC_1 lnC_2) (y2.row 3 (fun b => by simp)) (fun b _ _ => y2 1 b (by simp))
    have S4 := S3.up37 (v := i + 1)
    have r37 : c3 37 2 = i := by rw [y2 37 2 (by simp)]; exact c137
    refine ⟨c1, 1, 1, hup c3 37 2 (i + 1), g1, k1, k2.1, ?_, ?_, ?_, ?_, Or.inr ⟨rfl, hup_at, nx n j, S4, by omega, ?_, Or.inl ⟨rfl, m2, ⟨⟨i0, i1⟩, ?_⟩, fun b hb => ?_, fun b hb => ?_⟩⟩⟩
    · unfold fX2_readLine fX2_readLine_b29 fX2_readLine_b43
      rw [starts_ok, if_neg s]
      simp only [Option.bind_some, if_true]
      rw [c137, y1]
      simp only [Option.bind_some, pput]
      rw [r37, w1 (i := i) (by omega) (by omega), if_neg (by omega), if_neg (by omega), if_neg (by omega), if_neg (by omega), if_neg (by omega)]
    · unfold bkM
      rw [if_neg s, aput_in (by omega) (by rw [ll_197 hg.1.1]; omega)]
      simp only [Option.bind_some]
      rw [m1]
      rfl
    · exact ((k3.mono (fun a b z => ln_2 (tk_ln z))).tr (fc3.mono (fun a b z => ln_2 z))).tr (Fr.up (by decide))
    · exact (Fr.up (by unfold lnM; simp; omega)).tr (m3.mono (fun a b z => tx_ln (nx_tx z)))
    · rw [hup_off (by decide), y2 1 8 (by simp), k4]; exact e8
    · have e1 : g1 197 (20 * i) = K j - 143 := by rw [txF_row (m3.mono (fun a b z => nx_tx z)) (by decide), hup_at]
      have e2 : hup c3 37 2 (i + 1) 38 (19 * i) = K j := by rw [hup_off (by decide)]; exact y3
      rw [e1, e2]
      omega
    · rw [hup_off (by decide), y7 b (by omega), tkF_row k3 (by decide)]
    · rw [txF_row (m3.mono (fun a b z => nx_tx z)) (by decide), hup_ne (by omega)]
def lbM (a b : Int) : Bool := lnM a b || (a == 192 && b == 52)
theorem lbM_1 : refT.all (fun q => !(lbM q.1 q.2.1)) = true := by decide +kernel
theorem lbM_2 : lenT.all (fun q => !(lbM q.1 (-1))) = true := by decide +kernel
theorem ln_lb {a b : Int} (z : lnM a b = true) : lbM a b = true := by unfold lbM; rw [z]; rfl
theorem lbM_row {g g' : hH} (hf : Fr lbM g g') {a : Int} (h1 : a ≠ 192) (h2 : a ≠ 197) : g' a = g a := hf.row a (fun b => by unfold lbM lnM txF nxC; simp; omega)
theorem PI.ln2 {c g c' g' : hH} (h : PI c g) (ec : ∀ a, 4 ≤ a → a < 13 → c' a = c a) (eg : g' 198 = g 198) (es : g' 194 = g 194) : PI c' g' := by
  unfold PI at h ⊢
  rw [es]
  exact DR.per h (Or.inl rfl) (fun a a0 a1 => ec a a0 (by omega)) eg
theorem bookLoop {c0 g0 : hH} (lv : Int) (hC : Chain B L M n K A V E) (hM : M ≤ 400) (x0 x1 : hH) : ∀ (d : Nat) (j m : Int) (c g : hH), (n - j).toNat ≤ d → SC n K A V j c → SM B L M n K A V E j g → PI c g → c 37 2 = m → g 192 52 = m → 0 ≤ m → m ≤ 40 → 2 * m ≤ j → (∀ i, 0 ≤ i → i < m → LnR c g i) → Fr lnC2 c0 c → Fr lbM g0 g → c 1 8 = 0 →
    ∃ b c', lpO (fX2_readBook_s17 x0 37) (c, m) = some (b, c') ∧ Lay c' ∧ Fr lnC2 c0 c' ∧ ((b = 0 ∧ ∃ k a g', FRc k a c' ∧ 1 ≤ k ∧ lpO (fX12_book_s39 x1 192 lv) g = some (w32 (-2 - a), g') ∧ FRm k a g' ∧ Fr lbM g0 g') ∨
      (b = 1 ∧ ∃ g1, (∀ r, lpO (fX12_book_s85 g1 192 lv) (g1, 0) = some r → lpO (fX12_book_s39 x1 192 lv) g = some r) ∧ Fr lbM g0 g1 ∧ Lay g1 ∧ c' 37 2 = g1 192 52 ∧ (0 ≤ g1 192 52 ∧ g1 192 52 ≤ 40) ∧ (∀ i, 0 ≤ i → i < g1 192 52 → LnR c' g1 i) ∧ c' 1 8 = 0 ∧ g1 192 16 = 0)) := by
  intro d
  induction d with
  | zero =>
    intro j m c g hd hc
    exfalso
    have := hc.2.2.2.2
    omega
  | succ d ih =>
    intro j m c g hd hc hg hD hl hl' l0 l40 lj hln fc fg e8
    have n9 := hC.1.2
    have jn := hc.2.2.2.2
    have hcs : fX2_readBook_s17 x0 37 (c, m) = if K j = 0 then some (.inr (1, c)) else if stw (K j) ∨ trw (K j) then fX2_readBook_b79 c 37 m (K j) else (fX9_fail c 1 1).bind fun q75 => some (.inr (q75.1, q75.2)) := by
      unfold fX2_readBook_s17
      dsimp only
      rw [if_pos (by omega), ly_37_0 hc.1, hc.k, starts_ok]
      by_cases h0 : K j = 0
      · rw [if_pos h0, if_pos h0]
      · rw [if_neg h0, if_neg h0]
        simp only [Option.bind_some]
        by_cases s : stw (K j)
        · rw [if_pos s, if_neg (show ¬ (1 : Int) = 0 by decide), if_pos (show stw (K j) ∨ trw (K j) from Or.inl s)]
        · rw [if_neg s, if_pos (show (0 : Int) = 0 from rfl)]
          by_cases t1 : K j = 146
          · rw [if_pos t1, if_pos (show stw (K j) ∨ trw (K j) by omega)]
          · rw [if_neg t1]
            by_cases t2 : K j = 147
            · rw [if_pos t2, if_pos (show stw (K j) ∨ trw (K j) by omega)]
            · rw [if_neg t2]
              by_cases t3 : K j = 148
              · rw [if_pos t3, if_pos (show stw (K j) ∨ trw (K j) by omega)]
              · rw [if_neg t3, if_neg (show ¬ (stw (K j) ∨ trw (K j)) by omega)]
    by_cases h0 : K j = 0
    · rw [if_pos h0] at hcs
      refine ⟨1, c, lpO_inr hcs, hc.1, fc, Or.inr ⟨rfl, g, ?_, fg, hg.1.1, by rw [hl, hl'], by rw [hl']; exact ⟨l0, l40⟩, by rw [hl']; exact hln, e8, hg.2.2.1.2⟩⟩
      intro r hr
      refine lpO_inr ?_
      unfold fX12_book_s39
      rw [if_pos (hg.tok.1.mpr h0), hr]
      rfl
    rw [if_neg h0] at hcs
    have k0 : ¬ g 192 12 = 0 := fun z => h0 (hg.tok.1.mp z)
    have hms : fX12_book_s39 x1 192 lv g = (fX12_bookLine g 192).bind fun q47 => if q47.1 = 0 then (fX12_book_b62 q47.2 192).map (fun z9 => .inr (z9)) else (fX12_sign q47.2 192 59).bind fun q56 => if q56.1 = 0 then (fX12_book_b62 q56.2 192).map (fun z9 => .inr (z9)) else (pput q56.2 192 52 (w32 ((q56.2 192 52) + 1))).bind fun h77 => some (.inl h77) := by
      unfold fX12_book_s39
      rw [if_neg k0]
    rw [bookLine_eq hg hl' l0 l40] at hms
    have mbad : ∀ k a b' g1, (if stw (K j) ∨ trw (K j) then (if m = 40 then fX12_bad g 192 4 else bkM g (20 * m) (K j)) else fX12_bad g 192 1) = some (b', g1) → b' = 0 → FRm k a g1 → lpO (fX12_book_s39 x1 192 lv) g = some (w32 (-2 - a), g1) := fun k a b' g1 he hb hf => by
      refine lpO_inr ?_
      rw [hms, he, hb]
      simp only [Option.bind_some, if_true]
      unfold fX12_book_b62
      rw [hf.2]
      rfl
    by_cases hk : stw (K j) ∨ trw (K j)
    · rw [if_pos hk] at hcs
      by_cases h40 : m = 40
      · obtain ⟨c1, f1, f2, f3⟩ := failC (k := 4) hc
        obtain ⟨g1, f4, f5, f6⟩ := badM (k := 4) hg
        have hb : fX2_readBook_b79 c 37 m (K j) = some (.inr (0, c1)) := by
          unfold fX2_readBook_b79
          rw [hl, if_neg (by omega), ly_37_0 hc.1, f1]
          rfl
        rw [hb] at hcs
        refine ⟨0, c1, lpO_inr hcs, f3.lay hc.1 tkF_lay1 tkF_lay2, fc.tr (f3.mono (fun a b z => ln_2 (tk_ln z))), Or.inl ⟨rfl, 4, A j, g1, f2, by decide, mbad 4 (A j) 0 g1 (by rw [if_pos hk, if_pos h40, f4]) rfl f5, f5, fg.tr (f6.mono (fun a b z => ln_lb (tx_ln z)))⟩⟩
      · obtain ⟨c1, b, b', c', g', k1, kL, k2, k3, k4, k5, k6⟩ := bkLine2 hC l0 (by omega) hc hg hD e8 hl hk
        have hb : fX2_readBook_b79 c 37 m (K j) = if b = 0 then some (.inr (0, c')) else (fX9_take c' (c' 37 0) 59).bind fun q118 => if q118.1 = 0 then some (.inr (0, q118.2)) else some (.inl (q118.2, w32 (m + 1))) := by
          unfold fX2_readBook_b79
          rw [hl, if_pos (by omega), ly_37_0 hc.1, k1]
          simp only [Option.bind_some]
          rw [k2]
          rfl
        rw [hb] at hcs
        have fcc := fc.tr k4
        have fgg := fg.tr (k5.mono (fun a b z => ln_lb z))
        have Lc' : Lay c' := k4.lay hc.1 lnC2_1 lnC2_2
        rcases k6 with ⟨rfl, rfl, k, a, f1, f2, f3⟩ | ⟨rfl, c37, j', S1, jj, e8', k6⟩
        · rw [if_pos rfl] at hcs
          exact ⟨0, c', lpO_inr hcs, Lc', fcc, Or.inl ⟨rfl, k, a, g', f1, f3, mbad k a 0 g' (by rw [if_pos hk, if_neg h40, k3]) rfl f2, f2, fgg⟩⟩
        · rw [if_neg (show ¬ (1 : Int) = 0 by decide), ly_37_0 S1.1] at hcs
          rcases k6 with ⟨rfl, U1, hn, lo⟩ | ⟨rfl, f, k59, -⟩
          · obtain ⟨b2, c2, g2, t1, t2, t3⟩ := take2 (i := 59) hC S1 U1 (by unfold sgn; decide)
            rw [t1] at hcs
            rw [if_pos hk, if_neg h40, k3] at hms
            simp only [Option.bind_some] at hcs hms
            rw [if_neg (show ¬ (1 : Int) = 0 by decide), t2] at hms
            simp only [Option.bind_some] at hms
            rcases t3 with ⟨rfl, ⟨⟨k, a, f1, f2, f3⟩, f4, f5⟩⟩ | ⟨rfl, k59, S2, U2, f4, f5, e82⟩
            · rw [if_pos rfl] at hcs hms
              refine ⟨0, c2, lpO_inr hcs, f4.lay Lc' tkF_lay1 tkF_lay2, fcc.tr (f4.mono (fun a b z => ln_2 (tk_ln z))), Or.inl ⟨rfl, k, a, g2, f1, f3, lpO_inr ?_, f2, fgg.tr (f5.mono (fun a b z => ln_lb (tx_ln z)))⟩⟩
              rw [hms]
              unfold fX12_book_b62
              rw [f2.2]
              rfl
            · rw [if_neg (show ¬ (1 : Int) = 0 by decide)] at hcs hms
              simp only [pput, Option.bind_some] at hms
              have g52 : g2 192 52 = m := by rw [f5 192 52 (by decide), k5 192 52 (by decide)]; exact hl'
              rw [w1 (i := m) (by omega) (by omega)] at hcs
              rw [g52, w1 (i := m) (by omega) (by omega)] at hms
              have nx' := nx_s hC S1.2.2.2.2 (by omega) (by omega)
              have U3 : SM B L M n K A V E (nx n j') (hup g2 192 52 (m + 1)) := U2.per (U2.1.1.upF (by decide)) (by rw [hup_off (by decide)]) (by rw [hup_off (by decide)]) (fun b hb => hup_ne (by omega))
              have c38 : c2 38 = c' 38 := tkF_row f4 (by decide)
              have g197 : hup g2 192 52 (m + 1) 197 = g' 197 := by rw [hup_off (by decide)]; exact txF_row f5 (by decide)
              have r1 : g' 194 = g 194 := lnM_row k5 (by decide) (by decide)
              have g194 : hup g2 192 52 (m + 1) 194 = g' 194 := by rw [hup_off (by decide)]; exact txF_row f5 (by decide)
              have hs : SOk (g' 194) := by rw [r1]; exact hD.2.2.1
              have hln' : ∀ i, 0 ≤ i → i < m + 1 → LnR c2 (hup g2 192 52 (m + 1)) i := fun i i0 i1 => by
                by_cases e : i = m
                · rw [e]
                  exact hn.of hs c38 g197 (fun _ _ _ => by rw [g194])
                · have h1 := hln i i0 (by omega)
                  have h2 : LnR c' g' i := by
                    unfold LnR LOk LinC at h1 ⊢
                    have q38 : ∀ p, 0 ≤ p → p < 19 → c' 38 (19 * i + p) = c 38 (19 * i + p) := fun p p0 p1 => lo.1 _ (by omega)
                    have q197 : ∀ p, 0 ≤ p → p < 20 → g' 197 (20 * i + p) = g 197 (20 * i + p) := fun p p0 p1 => lo.2 _ (by omega)
                    have z38 : c' 38 (19 * i) = c 38 (19 * i) := lo.1 _ (by omega)
                    have z197 : g' 197 (20 * i) = g 197 (20 * i) := lo.2 _ (by omega)
                    rw [r1, z38, z197]
                    refine ⟨h1.1, ?_⟩
                    rcases h1.2 with ⟨⟨a1, a2, a3, a4, a5, a6, a7⟩, b1, b2, b3, b4, b5, b6, b7⟩ | h1
                    · refine Or.inl ⟨?_, ?_⟩
                      · dsimp only at a1 a2 a3 a4 a5 a6 a7 ⊢
                        have hw := hD.2.2.1.2.2.2.2.1 _ a2.1 a2.2
                        simp only [q197 0 (by decide) (by decide), q197 1 (by decide) (by decide), q197 2 (by decide) (by decide), q197 3 (by decide) (by decide), q197 4 (by decide) (by decide), q197 5 (by decide) (by decide), q197 6 (by decide) (by decide), q197 7 (by decide) (by decide)]
                        refine ⟨a1, a2, a3, fun k k0 k1 => ?_, fun z => ⟨(a5 z).1, (a5 z).2.1, fun k k0 k1 => ?_⟩, a6, a7⟩
                        · rw [q197 (8 + 3 * k) (by omega) (by omega), q197 (8 + 3 * k + 1) (by omega) (by omega), q197 (8 + 3 * k + 2) (by omega) (by omega)]
                          exact a4 k k0 k1
                        · rw [q197 (3 + k) (by omega) (by omega)]
                          exact (a5 z).2.2 k k0 k1
                      · dsimp only at a1 a2 a3 b2 b3 b4 b5 b6 b7 ⊢
                        have hw := hD.2.2.1.2.2.2.2.1 _ a2.1 a2.2
                        simp only [q197 0 (by decide) (by decide), q197 1 (by decide) (by decide), q197 2 (by decide) (by decide), q197 3 (by decide) (by decide), q197 4 (by decide) (by decide), q197 5 (by decide) (by decide), q197 6 (by decide) (by decide), q197 7 (by decide) (by decide), q38 1 (by decide) (by decide), q38 2 (by decide) (by decide), q38 3 (by decide) (by decide), q38 4 (by decide) (by decide), q38 5 (by decide) (by decide), q38 6 (by decide) (by decide)]
                        refine ⟨b1, b2, b3, b4, fun k k0 k1 => ?_, fun z k k0 k1 => ?_, b7⟩
                        · rw [q197 (8 + 3 * k) (by omega) (by omega), q197 (8 + 3 * k + 1) (by omega) (by omega), q197 (8 + 3 * k + 2) (by omega) (by omega), q38 (7 + 3 * k) (by omega) (by omega), q38 (7 + 3 * k + 1) (by omega) (by omega), q38 (7 + 3 * k + 2) (by omega) (by omega)]
                          exact b5 k k0 k1
                        · rw [q197 (3 + k) (by omega) (by omega), q38 (3 + k) (by omega) (by omega)]
                          exact b6 z k k0 k1
                    · exact Or.inr h1
                  exact h2.of hs c38 g197 (fun _ _ _ => by rw [g194])
              obtain ⟨b9, c9, y1, yL, y2, y3⟩ := ih (nx n j') (m + 1) c2 _ (by have := hc.2.2.2.1; have := S2.2.2.2.2; omega) S2 U3 (hD.ln2 (fun a a0 a1 => by rw [tkF_row f4 (by omega), k4.row a (fun b => by unfold lnC2 lnC tkF; simp; omega)]) (by rw [hup_off (by decide), txF_row f5 (by decide), lnM_row k5 (by decide) (by decide)]) (by rw [g194, r1])) (by rw [tkF_row f4 (by decide)]; exact c37) hup_at (by omega) (by omega) (by omega) hln' (fcc.tr (f4.mono (fun a b z => ln_2 (tk_ln z)))) ((fgg.tr (f5.mono (fun a b z => ln_lb (tx_ln z)))).tr (Fr.up (by decide))) (by rw [e82]; exact e8')
              refine ⟨b9, c9, by rw [lpO_inl hcs]; exact y1, yL, y2, ?_⟩
              rcases y3 with ⟨z1, k, a, g', z2, z3, z4, z5⟩ | ⟨z1, g9, z2, z3⟩
              · exact Or.inl ⟨z1, k, a, g', z2, z3, by rw [lpO_inl hms]; exact z4, z5⟩
              · exact Or.inr ⟨z1, g9, fun r hr => by rw [lpO_inl hms]; exact z2 r hr, z3⟩
          · obtain ⟨c2, f1, f2, f3⟩ := failC (k := 1) S1
            have ht : fX9_take c' 1 59 = some (0, c2) := by
              unfold fX9_take
              rw [S1.k, if_neg k59, f1]
              rfl
            rw [ht] at hcs
            simp only [Option.bind_some, if_true] at hcs
            exact ⟨0, c2, lpO_inr hcs, f3.lay Lc' tkF_lay1 tkF_lay2, fcc.tr (f3.mono (fun a b z => ln_2 (tk_ln z))), Or.inl ⟨rfl, 1, A j', g', f2, by decide, mbad 1 (A j') 0 g' (by rw [if_pos hk, if_neg h40, k3]) rfl f, f, fgg⟩⟩
    · rw [if_neg hk] at hcs
      obtain ⟨c1, f1, f2, f3⟩ := failC (k := 1) hc
      obtain ⟨g1, f4, f5, f6⟩ := badM (k := 1) hg
      rw [f1] at hcs
      exact ⟨0, c1, lpO_inr hcs, f3.lay hc.1 tkF_lay1 tkF_lay2, fc.tr (f3.mono (fun a b z => ln_2 (tk_ln z))), Or.inl ⟨rfl, 1, A j, g1, f2, by decide, mbad 1 (A j) 0 g1 (by rw [if_neg hk, f4]) rfl f5, f5, fg.tr (f6.mono (fun a b z => ln_lb (tx_ln z)))⟩⟩
end SIM
