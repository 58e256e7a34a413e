/-! THE TAPE: feed, end -/
def ap1 (T A j : Int) (h : hH) (v : Int) : hH := hup (hup h A (h T j) v) T j (h T j + 1)
def apl (T A j : Int) (h : hH) (bs : List Int) : hH := bs.foldl (ap1 T A j) h
theorem apl_T {T A j : Int} (hTA : T ≠ A) : ∀ (bs : List Int) (h : hH), apl T A j h bs T j = h T j + bs.length
  | [], h => by simp [apl]
  | v :: bs, h => by
    have ih := apl_T (T := T) (A := A) (j := j) hTA bs (ap1 T A j h v)
    have e : ap1 T A j h v T j = h T j + 1 := hup_at
    show apl T A j (ap1 T A j h v) bs T j = _
    rw [ih, e, List.length_cons]
    omega
theorem apl_T2 {T A j i : Int} (hTA : T ≠ A) (hi : i ≠ j) : ∀ (bs : List Int) (h : hH), apl T A j h bs T i = h T i
  | [], h => rfl
  | v :: bs, h => by
    show apl T A j (ap1 T A j h v) bs T i = _
    rw [apl_T2 hTA hi bs, ap1, hup_ne (fun z => hi z.2), hup_off hTA]
theorem apl_off {T A j a : Int} (h1 : a ≠ T) (h2 : a ≠ A) : ∀ (bs : List Int) (h : hH), apl T A j h bs a = h a
  | [], h => rfl
  | v :: bs, h => by
    show apl T A j (ap1 T A j h v) bs a = _
    rw [apl_off h1 h2 bs, ap1, hup_off h1, hup_off h2]
theorem apl_A {T A j : Int} (hTA : T ≠ A) : ∀ (bs : List Int) (h : hH) (i : Int), apl T A j h bs A i = if h T j ≤ i ∧ i < h T j + bs.length then bs.getD (i - h T j).toNat 0 else h A i
  | [], h, i => by
    rw [if_neg (by simp only [List.length_nil]; omega)]
    rfl
  | v :: bs, h, i => by
    have e : ap1 T A j h v T j = h T j + 1 := hup_at
    have e2 : ap1 T A j h v A i = if i = h T j then v else h A i := by
      unfold ap1
      rw [hup_off (Ne.symm hTA)]
      by_cases z : i = h T j
      · rw [if_pos z, z]; exact hup_at
      · rw [if_neg z, hup_ne (fun y => z y.2)]
    show apl T A j (ap1 T A j h v) bs A i = _
    rw [apl_A hTA bs, e, e2, List.length_cons]
    by_cases z : i = h T j
    · subst z
      rw [if_neg (by omega), if_pos rfl, if_pos (by omega)]
      simp
    · rw [if_neg z]
      by_cases y : h T j + 1 ≤ i ∧ i < h T j + 1 + bs.length
      · rw [if_pos y, if_pos (by omega)]
        obtain ⟨k, hk⟩ : ∃ k : Nat, (i - h T j).toNat = k + 1 := ⟨(i - h T j).toNat - 1, by omega⟩
        rw [hk, List.getD_cons_succ]
        congr 1
        omega
      · rw [if_neg y, if_neg (by omega)]
theorem apl_app {T A j : Int} {h : hH} {a b : List Int} : apl T A j h (a ++ b) = apl T A j (apl T A j h a) b := List.foldl_append ..
def by4 (v : Int) : List Int := [i2bD (i2bD (iusD v 24)), i2bD (i2bD (iusD v 16)), i2bD (i2bD (iusD v 8)), i2bD (i2bD (iusD v 0))]
theorem lay_apl {T A j : Int} (hs : sfF T j = true) (hsA : sfA A = true) (hTA : T ≠ A) : ∀ (bs : List Int) {h : hH}, Lay h → 0 ≤ h T j → Lay (apl T A j h bs)
  | [], h, hL, _ => hL
  | v :: bs, h, hL, h0 => by
    have e : ap1 T A j h v T j = h T j + 1 := hup_at
    exact lay_apl hs hsA hTA bs (h := ap1 T A j h v) ((hL.upA hsA (by omega)).upF hs) (by rw [e]; omega)
theorem Lay.aplL {T A j : Int} {h : hH} (hL : Lay h) (hs : sfF T j = true) (hsA : sfA A = true) (hTA : T ≠ A) (h0 : 0 ≤ h T j) (bs : List Int) : Lay (apl T A j h bs) := lay_apl hs hsA hTA bs hL h0
theorem append_s {h0 h : hH} (hL : Lay h) {a c c' : Int} (hc : 0 ≤ c) (hc2 : w32 (c + (-8)) = c') (h1 : 0 ≤ h 1 1) (h2 : h 1 1 < 940) : fX9_append_s3 h0 1 a (h, c) = some (.inl (ap1 1 2 1 h (i2bD (i2bD (iusD a c))), c')) := by
  have e0 := ly_1_0 hL
  have e1 := ll_2 hL
  unfold fX9_append_s3
  dsimp only
  rw [if_neg (by omega), if_neg (by omega), e0, if_pos (by omega), aput_in h1 (by omega)]
  have e2 : hup h 2 (h 1 1) (i2bD (i2bD (iusD a c))) 1 1 = h 1 1 := by rw [hup_off (by decide)]
  simp only [Option.bind_some, pput, e2, ap1]
  rw [w32_id (x := h 1 1 + 1) (by omega) (by omega), hc2]
theorem append_ok {h : hH} (hL : Lay h) (a : Int) (h1 : 0 ≤ h 1 1) (h2 : h 1 1 + 4 ≤ 940) : fX9_append h 1 a = some (apl 1 2 1 h (by4 a)) := by
  unfold fX9_append
  have st : ∀ (g : hH), Lay g → 0 ≤ g 1 1 → ∀ v, Lay (ap1 1 2 1 g v) ∧ ap1 1 2 1 g v 1 1 = g 1 1 + 1 := fun g hg h0 v => ⟨(hg.upA (by decide) (by omega)).upF (by decide), hup_at⟩
  obtain ⟨L1, E1⟩ := st h hL h1 (i2bD (i2bD (iusD a 24)))
  obtain ⟨L2, E2⟩ := st _ L1 (by omega) (i2bD (i2bD (iusD a 16)))
  obtain ⟨L3, E3⟩ := st _ L2 (by omega) (i2bD (i2bD (iusD a 8)))
  rw [lpO_inl (append_s hL (c := 24) (c' := 16) (by decide) (by decide) h1 (by omega))]
  rw [lpO_inl (append_s L1 (c := 16) (c' := 8) (by decide) (by decide) (by omega) (by omega))]
  rw [lpO_inl (append_s L2 (c := 8) (c' := 0) (by decide) (by decide) (by omega) (by omega))]
  rw [lpO_inl (append_s L3 (c := 0) (c' := -8) (by decide) (by decide) (by omega) (by omega))]
  exact lpO_inr rfl
theorem four_s {h0 h : hH} (hL : Lay h) {a c c' : Int} (hc : c = 24 ∨ c = 16 ∨ c = 8 ∨ c = 0) (hc2 : w32 (c + (-8)) = c') (h1 : 0 ≤ h 192 2) (h2 : h 192 2 < 940) : fX12_four_s3 h0 192 a (h, c) = some (.inl (ap1 192 193 2 h (i2bD (i2bD (iusD a c))), c')) := by
  have e0 := ly_192_1 hL
  have e1 := ll_193 hL
  unfold fX12_four_s3
  dsimp only
  rw [if_neg (by omega), e0, aput_in h1 (by omega), by_ish a hc]
  have e2 : hup h 193 (h 192 2) (i2bD (i2bD (isrD a c))) 192 2 = h 192 2 := by rw [hup_off (by decide)]
  simp only [Option.bind_some, pput, e2, ap1]
  rw [w32_id (x := h 192 2 + 1) (by omega) (by omega), hc2]
theorem four_ok {h : hH} (hL : Lay h) (a : Int) (h1 : 0 ≤ h 192 2) (h2 : h 192 2 + 4 ≤ 940) : fX12_four h 192 a = some (apl 192 193 2 h (by4 a)) := by
  unfold fX12_four
  have st : ∀ (g : hH), Lay g → 0 ≤ g 192 2 → ∀ v, Lay (ap1 192 193 2 g v) ∧ ap1 192 193 2 g v 192 2 = g 192 2 + 1 := fun g hg h0 v => ⟨(hg.upA (by decide) (by omega)).upF (by decide), hup_at⟩
  obtain ⟨L1, E1⟩ := st h hL h1 (i2bD (i2bD (iusD a 24)))
  obtain ⟨L2, E2⟩ := st _ L1 (by omega) (i2bD (i2bD (iusD a 16)))
  obtain ⟨L3, E3⟩ := st _ L2 (by omega) (i2bD (i2bD (iusD a 8)))
  rw [lpO_inl (four_s hL (c := 24) (c' := 16) (by decide) (by decide) h1 (by omega))]
  rw [lpO_inl (four_s L1 (c := 16) (c' := 8) (by decide) (by decide) (by omega) (by omega))]
  rw [lpO_inl (four_s L2 (c := 8) (c' := 0) (by decide) (by decide) (by omega) (by omega))]
  rw [lpO_inl (four_s L3 (c := 0) (c' := -8) (by decide) (by decide) (by omega) (by omega))]
  exact lpO_inr rfl
/-- the two tapes are alike -/
def TapeR (h : hH) : Prop := h 192 2 = h 1 1 ∧ 0 ≤ h 1 1 ∧ h 1 1 ≤ 940 ∧ ∀ i, 0 ≤ i → i < h 1 1 → h 193 i = h 2 i
/-- only these cells, and of these objects only these places, are others -/
def Chg (S : List Int) (P : List (Int × Int)) (h h' : hH) : Prop := ∀ a b, a ∉ S → (a, b) ∉ P → h' a b = h a b
theorem bs20 (a b c d e : Int) : (by4 a ++ by4 b ++ by4 c ++ by4 d ++ by4 e).length = 20 := rfl
theorem feed_c {h : hH} (hL : Lay h) (hT : TapeR h) (a b c d e : Int) : fX11_feed h 0 a b c d e = if 920 < h 1 1 then some (-1, h) else some (h 1 1 + 20, apl 1 2 1 h (by4 a ++ by4 b ++ by4 c ++ by4 d ++ by4 e)) := by
  unfold fX11_feed
  have e0 := ly_0_0 hL
  obtain ⟨-, t0, t1, -⟩ := hT
  rw [e0, w32_id (by omega) (by omega)]
  by_cases hb : 920 < h 1 1
  · rw [if_pos (by omega), if_pos hb]
  · rw [if_neg (by omega), if_neg hb]
    have nx : ∀ (g : hH) (v : Int), Lay g → 0 ≤ g 1 1 → Lay (apl 1 2 1 g (by4 v)) ∧ apl 1 2 1 g (by4 v) 1 1 = g 1 1 + 4 := fun g v hg h0 => ⟨hg.aplL (by decide) (by decide) (by decide) h0 _, apl_T (by decide) _ _⟩
    rw [append_ok hL a t0 (by omega)]
    obtain ⟨L1, E1⟩ := nx h a hL t0
    simp only [Option.bind_some]
    rw [ly_0_0 L1, append_ok L1 b (by omega) (by omega)]
    obtain ⟨L2, E2⟩ := nx _ b L1 (by omega)
    simp only [Option.bind_some]
    rw [ly_0_0 L2, append_ok L2 c (by omega) (by omega)]
    obtain ⟨L3, E3⟩ := nx _ c L2 (by omega)
    simp only [Option.bind_some]
    rw [ly_0_0 L3, append_ok L3 d (by omega) (by omega)]
    obtain ⟨L4, E4⟩ := nx _ d L3 (by omega)
    simp only [Option.bind_some]
    rw [ly_0_0 L4, append_ok L4 e (by omega) (by omega)]
    obtain ⟨L5, E5⟩ := nx _ e L4 (by omega)
    simp only [Option.bind_some]
    rw [ly_0_0 L5, E5, E4, E3, E2, E1]
    simp only [apl_app]
    congr 2
    omega
theorem feed_m {h : hH} (hL : Lay h) (t0 : 0 ≤ h 192 2) (t1 : h 192 2 ≤ 940) (a b c d e : Int) : fX12_feed h 192 a b c d e = if 920 < h 192 2 then some (-1, hup h 192 0 0) else some (h 192 2 + 20, apl 192 193 2 (hup h 192 0 0) (by4 a ++ by4 b ++ by4 c ++ by4 d ++ by4 e)) := by
  unfold fX12_feed
  have eg : hup h 192 0 0 192 2 = h 192 2 := hup_ne (by decide)
  have L0 : Lay (hup h 192 0 0) := hL.upF (by decide)
  simp only [pput, Option.bind_some]
  rw [eg, w32_id (by omega) (by omega)]
  by_cases hb : 920 < h 192 2
  · rw [if_pos (by omega), if_pos hb]
  · rw [if_neg (by omega), if_neg hb]
    have nx : ∀ (g : hH) (v : Int), Lay g → 0 ≤ g 192 2 → Lay (apl 192 193 2 g (by4 v)) ∧ apl 192 193 2 g (by4 v) 192 2 = g 192 2 + 4 := fun g v hg h0 => ⟨hg.aplL (by decide) (by decide) (by decide) h0 _, apl_T (by decide) _ _⟩
    rw [four_ok L0 a (by omega) (by omega)]
    obtain ⟨L1, E1⟩ := nx _ a L0 (by omega)
    simp only [Option.bind_some]
    rw [four_ok L1 b (by omega) (by omega)]
    obtain ⟨L2, E2⟩ := nx _ b L1 (by omega)
    simp only [Option.bind_some]
    rw [four_ok L2 c (by omega) (by omega)]
    obtain ⟨L3, E3⟩ := nx _ c L2 (by omega)
    simp only [Option.bind_some]
    rw [four_ok L3 d (by omega) (by omega)]
    obtain ⟨L4, E4⟩ := nx _ d L3 (by omega)
    simp only [Option.bind_some]
    rw [four_ok L4 e (by omega) (by omega)]
    obtain ⟨L5, E5⟩ := nx _ e L4 (by omega)
    simp only [Option.bind_some]
    rw [E5, E4, E3, E2, E1, eg]
    simp only [apl_app]
    congr 2
    omega
theorem feed_ok {h : hH} (hL : Lay h) (hT : TapeR h) (a b c d e : Int) : ∃ r h1 h2, fX11_feed h 0 a b c d e = some (r, h1) ∧ fX12_feed h1 192 a b c d e = some (r, h2) ∧ Lay h2 ∧ TapeR h2 ∧ Chg [2, 193] [(1, 1), (192, 0), (192, 2)] h h2 := by
  have hc := feed_c hL hT a b c d e
  obtain ⟨t0, t1, t2, t3⟩ := hT
  by_cases hb : 920 < h 1 1
  · rw [if_pos hb] at hc
    refine ⟨-1, h, hup h 192 0 0, hc, ?_, hL.upF (by decide), ?_, fun a b h1 h2 => hup_ne (fun z => h2 (by rw [z.1, z.2]; decide))⟩
    · rw [feed_m hL (by omega) (by omega), if_pos (by omega)]
    · unfold TapeR
      rw [hup_ne (by decide), hup_off (by decide), hup_off (by decide)]
      exact ⟨t0, t1, t2, t3⟩
  · rw [if_neg hb] at hc
    generalize hbs : by4 a ++ by4 b ++ by4 c ++ by4 d ++ by4 e = bs at hc
    have hlen : bs.length = 20 := by rw [← hbs]; rfl
    have L1 : Lay (apl 1 2 1 h bs) := hL.aplL (by decide) (by decide) (by decide) t1 _
    have m2 : apl 1 2 1 h bs 192 2 = h 1 1 := by rw [apl_off (by decide) (by decide)]; exact t0
    have hm := feed_m L1 (by omega) (by omega) a b c d e
    rw [m2, if_neg hb, hbs] at hm
    have eg : ∀ i, i ≠ 0 → hup (apl 1 2 1 h bs) 192 0 0 192 i = apl 1 2 1 h bs 192 i := fun i hi => hup_ne (fun z => hi z.2)
    refine ⟨h 1 1 + 20, _, _, hc, hm, (L1.upF (by decide)).aplL (by decide) (by decide) (by decide) (by rw [eg 2 (by decide), m2]; exact t1) _, ?_, ?_⟩
    · unfold TapeR
      have e1 : apl 192 193 2 (hup (apl 1 2 1 h bs) 192 0 0) bs 1 1 = h 1 1 + 20 := by
        rw [apl_off (by decide) (by decide), hup_off (by decide), apl_T (by decide), hlen]
        rfl
      have e2 : apl 192 193 2 (hup (apl 1 2 1 h bs) 192 0 0) bs 192 2 = h 1 1 + 20 := by
        rw [apl_T (by decide), eg 2 (by decide), m2, hlen]
        rfl
      rw [e1, e2]
      refine ⟨rfl, by omega, by omega, fun i h0 h1 => ?_⟩
      rw [apl_A (by decide), eg 2 (by decide), m2, apl_off (a := 2) (by decide) (by decide), hup_off (a := 2) (by decide), apl_A (T := 1) (by decide), hup_off (a := 193) (by decide), apl_off (a := 193) (by decide) (by decide)]
      by_cases z : h 1 1 ≤ i ∧ i < h 1 1 + bs.length
      · rw [if_pos z, if_pos z]
      · rw [if_neg z, if_neg z]
        exact t3 i h0 (by omega)
    · intro a b h1 h2
      have n1 : a ≠ 2 := fun z => h1 (by rw [z]; decide)
      have n2 : a ≠ 193 := fun z => h1 (by rw [z]; decide)
      by_cases za : a = 192
      · subst za
        have b0 : b ≠ 0 := fun z => h2 (by rw [z]; decide)
        have b2 : b ≠ 2 := fun z => h2 (by rw [z]; decide)
        rw [apl_T2 (by decide) b2, eg b b0, apl_off (by decide) (by decide)]
      · rw [apl_off za n2, hup_off za]
        by_cases zb : a = 1
        · subst zb
          exact apl_T2 (by decide) (fun z => h2 (by rw [z]; decide)) _ _
        · rw [apl_off zb n1]
theorem end_ok {h : hH} (hL : Lay h) (hT : TapeR h) (n : Int) : ∃ r h1 h2, fX11_end h 0 n = some (r, h1) ∧ fX12_end h1 192 n = some (r, h2) ∧ Lay h2 ∧ TapeR h2 ∧ Chg [] [(1, 1), (192, 0), (192, 2)] h h2 := by
  have e0 := ly_0_0 hL
  obtain ⟨t0, t1, t2, t3⟩ := hT
  unfold fX11_end fX12_end
  rw [e0]
  have cg : ∀ g : hH, Chg [] [(1, 1), (192, 0), (192, 2)] g (hup g 192 0 0) := fun g a b h1 h2 => hup_ne (fun z => h2 (by rw [z.1, z.2]; decide))
  have tr : TapeR (hup h 192 0 0) := by
    unfold TapeR
    rw [hup_ne (by decide), hup_off (by decide), hup_off (by decide)]
    exact ⟨t0, t1, t2, t3⟩
  by_cases h1 : n < 0
  · simp only [pput, Option.bind_some, if_pos h1]
    exact ⟨0, _, _, rfl, rfl, hL.upF (by decide), tr, cg h⟩
  · simp only [pput, Option.bind_some, if_neg h1]
    by_cases h2 : h 1 1 < n
    · simp only [if_pos h2]
      refine ⟨0, _, _, rfl, ?_, hL.upF (by decide), tr, cg h⟩
      rw [hup_ne (by decide), t0, if_pos h2]
    · simp only [if_neg h2]
      refine ⟨1, _, _, rfl, ?_, ((hL.upF (k := 1) (j := 1) (v := n) (by decide)).upF (k := 192) (j := 0) (v := 0) (by decide)).upF (k := 192) (j := 2) (v := n) (by decide), ?_, ?_⟩
      · rw [hup_ne (by decide), hup_off (by decide), t0, if_neg h2]
      · unfold TapeR
        have e1 : ∀ a, a ≠ 1 → a ≠ 192 → hup (hup (hup h 1 1 n) 192 0 0) 192 2 n a = h a := fun a h3 h4 => by rw [hup_off h4, hup_off h4, hup_off h3]
        have e2 : hup (hup (hup h 1 1 n) 192 0 0) 192 2 n 1 1 = n := by rw [hup_off (by decide), hup_off (by decide), hup_at]
        rw [hup_at, e2, e1 2 (by decide) (by decide), e1 193 (by decide) (by decide)]
        exact ⟨rfl, by omega, by omega, fun i h0 h1 => t3 i h0 (by omega)⟩
      · intro a b h3 h4
        rw [hup_ne (fun z => h4 (by rw [z.1, z.2]; decide)), hup_ne (fun z => h4 (by rw [z.1, z.2]; decide)), hup_ne (fun z => h4 (by rw [z.1, z.2]; decide))]
