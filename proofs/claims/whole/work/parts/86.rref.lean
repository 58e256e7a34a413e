/-! READING A SCHEMA: references -/
section SIM
variable {B : Int → Int} {L M n : Int} {K A V E : Int → Int}
theorem key2 {c g : hH} {t a b : Int} (hL : Lay g) (hD : DI c g) : ∃ r, fX4_keyAlike c 25 t a b = some r ∧ fX12_keyOf g 192 t a b = some r ∧ (r = -1 ∨ ((0 ≤ r ∧ r < g 195 1) ∧ g 195 (40 + r) = t ∧ g 195 (46 + r) = a ∧ g 195 (52 + r) = b)) := by
  obtain ⟨hA, hR, hs, -, -⟩ := hD
  have h1 := hs.2.1
  have m := lpO_find (f := fX12_keyOf_s3 g 192 t a b) (fun k => k) (g 195 1) (fun k => g 195 (40 + k) = t ∧ g 195 (46 + k) = a ∧ g 195 (52 + k) = b) (fun k => k) (-1) (fun k k0 k1 => by
    unfold fX12_keyOf_s3
    rw [row195 hL (by decide) (by decide)]
    simp only [Option.bind_some]
    rw [if_pos k1, w32_id (x := 40 + k) (by omega) (by omega), w32_id (x := 46 + k) (by omega) (by omega), w32_id (x := 52 + k) (by omega) (by omega), row195 hL (by omega) (by omega), w1 (by omega) (by omega)]
    simp only [Option.bind_some]
    rw [row195 hL (by omega) (by omega), row195 hL (by omega) (by omega)]
    simp only [Option.bind_some]
    refine ⟨fun z => by rw [if_pos z.1, if_pos z.2.1, if_pos z.2.2], fun z => ?_⟩
    by_cases e1 : g 195 (40 + k) = t
    · rw [if_pos e1]
      by_cases e2 : g 195 (46 + k) = a
      · rw [if_pos e2, if_neg (fun y => z ⟨e1, e2, y⟩)]
      · rw [if_neg e2]
    · rw [if_neg e1]) (by
    unfold fX12_keyOf_s3
    rw [row195 hL (by decide) (by decide)]
    simp only [Option.bind_some]
    rw [if_neg (Int.lt_irrefl _)]) (i := 0) (Int.le_refl _) h1.1
  have cl := lpO_find (f := fX4_keyAlike_s3 c 25 t a b) (fun k => k) (g 195 1) (fun k => g 195 (40 + k) = t ∧ g 195 (46 + k) = a ∧ g 195 (52 + k) = b) (fun k => k) (-1) (fun k k0 k1 => by
    obtain ⟨p1, p2, p3⟩ := keyPart_ok hA hR hs k0 k1
    unfold fX4_keyAlike_s3
    rw [hR.1.2.1, if_pos k1, p1, p2, p3, w1 (by omega) (by omega)]
    simp only [Option.bind_some]
    refine ⟨fun z => by rw [if_pos z.1, if_pos z.2.1, if_pos z.2.2], fun z => ?_⟩
    by_cases e1 : g 195 (40 + k) = t
    · rw [if_pos e1]
      by_cases e2 : g 195 (46 + k) = a
      · rw [if_pos e2, if_neg (fun y => z ⟨e1, e2, y⟩)]
      · rw [if_neg e2]
    · rw [if_neg e1]) (by
    unfold fX4_keyAlike_s3
    rw [hR.1.2.1, if_neg (Int.lt_irrefl _)]) (i := 0) (Int.le_refl _) h1.1
  unfold fX4_keyAlike fX12_keyOf
  rcases m with ⟨k, k0, k1, k2, k3, k4⟩ | ⟨k1, k2⟩
  · rcases cl with ⟨q, q0, q1, q2, q3, q4⟩ | ⟨q1, q2⟩
    · have : k = q := by
        rcases Int.lt_trichotomy k q with y | y | y
        · exact absurd k2 (q3 k k0 y)
        · exact y
        · exact absurd q2 (k3 q q0 y)
      subst this
      exact ⟨k, q4, k4, Or.inr ⟨⟨k0, k1⟩, k2⟩⟩
    · exact absurd k2 (q1 k k0 k1)
  · rcases cl with ⟨q, q0, q1, q2, q3, q4⟩ | ⟨q1, q2⟩
    · exact absurd q2 (k1 q q0 q1)
    · exact ⟨-1, q2, k2, Or.inl rfl⟩
/-- the model's way to the key of a reference -/
noncomputable def keyM (G : hH) (v x y1 y2 t : Int) : Option (Int × hH) := if y2 < 0 then fX12_readRef_b99 G 192 v x y1 y2 t else (fX12_takesCol G 192 t).bind fun q91 => if q91.1 = 0 then some (0, q91.2) else fX12_readRef_b99 q91.2 192 v x y1 y2 t
theorem keyRef2 {C G : hH} {j v x y1 y2 t : Int} (hC : Chain B L M n K A V E) (hc : SC n K A V j C) (hg : SM B L M n K A V E j G) (hD : DI C G) (ht : 0 ≤ t ∧ t < G 195 0) (hy : -1 ≤ y2) : ∃ r C' two, two = (if y2 = -1 then (0 : Int) else 1) ∧ fX5_takeKey C 24 t two = some (r, C') ∧ Fr tkF C C' ∧
    ((r = -1 ∧ ∃ k a g', FRc k a C' ∧ keyM G v x y1 y2 t = some (0, g') ∧ FRm k a g' ∧ Fr txF G g' ∧ 1 ≤ k) ∨
     ((0 ≤ r ∧ r < G 195 1) ∧ G 195 (40 + r) = t ∧ (G 195 (52 + r) = -1 ↔ y2 = -1) ∧ ∃ j' g1, j ≤ j' ∧ SC n K A V (nx n j') C' ∧ C' 1 8 = C 1 8 ∧ SM B L M n K A V E j' g1 ∧ Fr txF G g1 ∧ keyM G v x y1 y2 t = fX12_readRef_b174 g1 192 v x y1 y2 t r)) := by
  have hs := hD.2.2.1
  have h4 := hs.1
  have hw := hs.2.2.2.2.1 t ht.1 ht.2
  obtain ⟨w1', w2'⟩ := colFrom ht.1 (show t < 4 by omega)
  -- the end, at the last column
  have fin : ∀ (j' : Int) (C1 g1 : hH) (a b : Int), SC n K A V j' C1 → SM B L M n K A V E j' g1 → DI C1 g1 → ∃ r, fX12_keyOf g1 192 t a b = some r ∧ (r = -1 ∨ ((0 ≤ r ∧ r < g1 195 1) ∧ g1 195 (40 + r) = t ∧ g1 195 (52 + r) = b)) ∧ ∃ C2, fX5_takeKey_b76 C1 24 t a b = some (r, C2) ∧ Fr tkF C1 C2 ∧ ((r = -1 ∧ FRc 3 (A j') C2) ∨ (r ≠ -1 ∧ SC n K A V (nx n j') C2 ∧ C2 1 8 = C1 1 8)) := fun j' C1 g1 a b hc1 hg1 hD1 => by
    obtain ⟨r, r1, r2, r3⟩ := key2 (t := t) (a := a) (b := b) hg1.1.1 hD1
    refine ⟨r, r2, by rcases r3 with z | ⟨z1, z2, -, z3⟩; exact Or.inl z; exact Or.inr ⟨z1, z2, z3⟩, ?_⟩
    unfold fX5_takeKey_b76
    rw [ly_24_1 hc1.1, r1, ly_24_0 hc1.1]
    simp only [Option.bind_some]
    by_cases z : r = -1
    · obtain ⟨C2, f1, f2, f3⟩ := failC (k := 3) hc1
      rw [if_pos z, f1]
      exact ⟨C2, by rw [z]; rfl, f3, Or.inl ⟨z, f2⟩⟩
    · obtain ⟨C2, s1, s2, s3, s4, -⟩ := stepC hC hc1
      rw [if_neg z, s1]
      exact ⟨C2, rfl, s3, Or.inr ⟨z, s2, s4⟩⟩
  have bad3 : ∀ (j' : Int) (g1 : hH), SM B L M n K A V E j' g1 → ∃ g', fX12_readRef_b174 g1 192 v x y1 y2 t (-1) = some (0, g') ∧ FRm 3 (A j') g' ∧ Fr txF g1 g' := fun j' g1 hg1 => by
    obtain ⟨g', f1, f2, f3⟩ := badM (k := 3) hg1
    unfold fX12_readRef_b174
    rw [if_pos (by decide), f1]
    exact ⟨g', rfl, f2, f3⟩
  by_cases two : y2 = -1
  · unfold keyM fX5_takeKey fX12_readRef_b99
    rw [if_pos two, if_pos (show y2 < 0 by omega), w2', w1', row195 hg.1.1 (by omega) (by omega)]
    obtain ⟨y, b, c1, g1, o1, o2, o3⟩ := colLook2 (u := -1) hc hg hD ht.1 ht.2 (Int.le_refl _)
    simp only [Option.bind_some]
    rw [o2]
    simp only [Option.bind_some]
    rcases o3 with ⟨rfl, rfl, ⟨⟨k, a, f1, f2, f3⟩, fc, fg⟩⟩ | ⟨_, _, z, _⟩ | ⟨hyy, _, rfl, e, rfl, S, fg, kj⟩
    · refine ⟨-1, c1, 0, rfl, ?_, fc, Or.inl ⟨rfl, k, a, g1, f1, by rw [if_pos rfl], f2, fg, f3⟩⟩
      unfold fX5_takeKey_b33
      rw [if_pos rfl, ly_24_0 hc.1, ly_24_1 hc.1, o1]
      simp only [Option.bind_some, if_true]
    · omega
    · have e195 : g1 195 = G 195 := txF_row fg (by decide)
      obtain ⟨r, r1, r2, C2, r3, r4, r5⟩ := fin j c1 g1 y (-1) hc S (hD.sc Fr.rf (fg.mono (fun a b z => tx_sm z)))
      rw [e195] at r2
      rw [if_neg (show ¬ (1 : Int) = 0 by decide), if_pos (show y2 < 0 by omega), e, r1]
      simp only [Option.bind_some]
      refine ⟨r, C2, 0, rfl, ?_, r4, ?_⟩
      · unfold fX5_takeKey_b33 fX5_takeKey_b62
        rw [if_pos rfl, ly_24_0 hc.1, ly_24_1 hc.1, o1]
        simp only [Option.bind_some]
        rw [if_neg (show ¬ y = -1 by omega), if_true, if_true]
        exact r3
      · rcases r5 with ⟨rfl, z⟩ | ⟨z1, z2, z3⟩
        · obtain ⟨g', q1, q2, q3⟩ := bad3 j g1 S
          exact Or.inl ⟨rfl, 3, A j, g', z, q1, q2, fg.tr q3, by decide⟩
        · rcases r2 with z | ⟨y3, y4, y5⟩
          · exact absurd z z1
          · exact Or.inr ⟨y3, y4, by omega, j, g1, Int.le_refl _, z2, z3, S, fg, rfl⟩
  · unfold keyM fX5_takeKey
    rw [if_neg two, if_neg (show ¬ y2 < 0 by omega)]
    obtain ⟨y, b, c1, g1, o1, o2, o3⟩ := colS hC hc hg hD ht.1 ht.2
    rw [o2]
    simp only [Option.bind_some]
    rcases o3 with ⟨rfl, rfl, ⟨⟨k, a, f1, f2, f3⟩, fc, fg⟩⟩ | ⟨hyy, rfl, e, S1, U1, fc, fg, e8⟩
    · refine ⟨-1, c1, 1, rfl, ?_, fc, Or.inl ⟨rfl, k, a, g1, f1, by rw [if_pos rfl], f2, fg, f3⟩⟩
      unfold fX5_takeKey_b33
      rw [if_neg (show ¬ (1 : Int) = 0 by decide), ly_24_0 hc.1, ly_24_1 hc.1, o1]
      simp only [Option.bind_some, if_true]
    · have hD1 : DI c1 g1 := hD.sc (fc.mono (fun a b z => tk_sc z)) (fg.mono (fun a b z => tx_sm z))
      have e195 : g1 195 = G 195 := txF_row fg (by decide)
      obtain ⟨w, b', c2, g2, q1, q2, q3⟩ := colLook2 (u := y) S1 U1 hD1 ht.1 (by rw [e195]; exact ht.2) (by omega)
      unfold fX12_readRef_b99
      rw [if_neg (show ¬ (1 : Int) = 0 by decide), w2', w1', row195 U1.1.1 (by omega) (by omega)]
      simp only [Option.bind_some]
      rw [q2]
      simp only [Option.bind_some]
      have hclass : fX5_takeKey_b33 c1 24 t 1 y = fX5_takeKey_b62 c2 24 t 1 y w := by
        unfold fX5_takeKey_b33
        rw [if_neg (show ¬ y = -1 by omega), if_neg (show ¬ (1 : Int) = 0 by decide), ly_24_0 S1.1, ly_24_1 S1.1, q1]
        rfl
      have hkey : ((fX9_takeCol C (C 24 0) (C 24 1) t (-1)).bind fun q14 => fX5_takeKey_b33 q14.2 24 t 1 q14.1) = fX5_takeKey_b62 c2 24 t 1 y w := by
        rw [ly_24_0 hc.1, ly_24_1 hc.1, o1]
        exact hclass
      rcases q3 with ⟨rfl, rfl, ⟨⟨k, a, f1, f2, f3⟩, fc2, fg2⟩⟩ | ⟨rfl, rfl, _, eu, f, fc2, fg2, U2⟩ | ⟨hww, hne, rfl, e2, rfl, U2, fg2, kj⟩
      · refine ⟨-1, c2, 1, rfl, ?_, fc.tr fc2, Or.inl ⟨rfl, k, a, g2, f1, by rw [if_pos rfl], f2, fg.tr fg2, f3⟩⟩
        rw [if_neg (show ¬ (1 : Int) = 0 by decide), hkey]
        unfold fX5_takeKey_b62
        rw [if_neg (show ¬ (1 : Int) = 0 by decide), if_pos rfl]
      · obtain ⟨g', p1, p2, p3⟩ := bad3 _ g2 U2
        refine ⟨-1, c2, 1, rfl, ?_, fc.tr fc2, Or.inl ⟨rfl, 3, A (nx n j), g', f, ?_, p2, fg.tr (fg2.tr p3), by decide⟩⟩
        · rw [if_neg (show ¬ (1 : Int) = 0 by decide), hkey]
          unfold fX5_takeKey_b62
          rw [if_neg (show ¬ (1 : Int) = 0 by decide), if_pos rfl]
        · rw [if_neg (show ¬ (1 : Int) = 0 by decide), if_neg (show ¬ y2 < 0 by omega), e, eu, if_pos rfl]
          exact p1
      · have e195' : g2 195 = G 195 := by rw [txF_row fg2 (by decide)]; exact e195
        obtain ⟨r, r1, r2, C2, r3, r4, r5⟩ := fin (nx n j) c2 g2 y w S1 U2 (hD1.sc Fr.rf (fg2.mono (fun a b z => tx_sm z)))
        rw [e195'] at r2
        rw [if_neg (show ¬ (1 : Int) = 0 by decide), if_neg (show ¬ y2 < 0 by omega), e, e2, if_neg (fun z => hne z.symm), r1]
        simp only [Option.bind_some]
        refine ⟨r, C2, 1, rfl, ?_, fc.tr r4, ?_⟩
        · rw [if_neg (show ¬ (1 : Int) = 0 by decide), hkey]
          unfold fX5_takeKey_b62
          rw [if_neg (show ¬ (1 : Int) = 0 by decide), if_neg (show ¬ w = -1 by omega)]
          exact r3
        · rcases r5 with ⟨rfl, z⟩ | ⟨z1, z2, z3⟩
          · obtain ⟨g', p1, p2, p3⟩ := bad3 _ g2 U2
            exact Or.inl ⟨rfl, 3, A (nx n j), g', z, p1, p2, fg.tr (fg2.tr p3), by decide⟩
          · rcases r2 with z | ⟨y3, y4, y5⟩
            · exact absurd z z1
            · exact Or.inr ⟨y3, y4, by omega, nx n j, g2, nx_le, z2, by rw [z3]; exact e8, U2, fg.tr fg2, rfl⟩
theorem on_w : (125779836236645 : Int) = rs256 4 ∧ (112628746448759 : Int) = rs256 5 ∧ (427020345714 : Int) = rs256 6 ∧ (491328333172 : Int) = rs256 7 ∧ (29807 : Int) = rs256 3 := by decide +kernel
theorem onWord2 {g : hH} {j : Int} (hg : SM B L M n K A V E j g) : fX12_onWord g 192 = some (if 132 ≤ K j ∧ K j ≤ 135 then K j - 132 else -1) := by
  obtain ⟨o1, o2, o3, o4, -⟩ := on_w
  unfold fX12_onWord
  rw [o1, o2, o3, o4, isWordM hg (by decide) (by decide), isWordM hg (by decide) (by decide), isWordM hg (by decide) (by decide), isWordM hg (by decide) (by decide)]
  simp only [Option.bind_some]
  by_cases z : 132 ≤ K j ∧ K j ≤ 135
  · rw [if_pos z]
    have : K j = 132 ∨ K j = 133 ∨ K j = 134 ∨ K j = 135 := by omega
    rcases this with y | y | y | y <;> rw [y] <;> decide
  · rw [if_neg z, if_neg (show ¬ K j = 128 + 4 by omega), if_neg (show ¬ K j = 128 + 5 by omega), if_neg (show ¬ K j = 128 + 6 by omega), if_neg (show ¬ K j = 128 + 7 by omega), if_pos rfl, if_pos rfl, if_pos rfl, if_pos rfl]
theorem takeOn2 {c g : hH} {j i : Int} (hC : Chain B L M n K A V E) (hc : SC n K A V j c) (hg : SM B L M n K A V E j g) (i0 : 0 ≤ i) (i1 : i < 148) : ∃ x c' b g', fX5_takeOn c 24 = some (x, c') ∧ fX12_takesOn g 192 i = some (b, g') ∧ Fr tkF c c' ∧ ((x = -1 ∧ b = 0 ∧ FRc 1 (A j) c' ∧ FRm 1 (A j) g' ∧ Fr txF g g') ∨ ((0 ≤ x ∧ x ≤ 3) ∧ b = 1 ∧ SC n K A V (nx n j) c' ∧ c' 1 8 = c 1 8 ∧ SM B L M n K A V E (nx n j) g' ∧ Fr nxC (hup g 195 i x) g')) := by
  unfold fX5_takeOn fX5_takeOn_b22 fX12_takesOn
  rw [onWord2 hg, ly_24_0 hc.1, hc.k]
  simp only [Option.bind_some]
  by_cases z : 132 ≤ K j ∧ K j ≤ 135
  · obtain ⟨c1, s1, s2, s3, s4, -⟩ := stepC hC hc
    have U := hg.up195 (b := i) (v := K j - 132) i0
    obtain ⟨g1, n1, n2, n3⟩ := nextM hC U
    rw [if_pos z, if_neg (show ¬ K j < 132 by omega), if_neg (show ¬ 135 < K j by omega), if_neg (show ¬ K j - 132 < 0 by omega), s1, put195 hg.1.1 i0 i1, w32_id (x := K j - 132) (by omega) (by omega)]
    simp only [Option.bind_some]
    rw [n1]
    exact ⟨_, c1, 1, g1, rfl, rfl, s3, Or.inr ⟨by omega, rfl, s2, s4, n2, n3⟩⟩
  · obtain ⟨c1, s1, s2, s3⟩ := failC (k := 1) hc
    obtain ⟨g1, n1, n2, n3⟩ := badM (k := 1) hg
    rw [if_neg z, if_pos (show (-1 : Int) < 0 by decide), s1, n1]
    refine ⟨-1, c1, 0, g1, ?_, rfl, s3, Or.inl ⟨rfl, rfl, s2, n2, n3⟩⟩
    by_cases y : K j < 132
    · rw [if_pos y]; rfl
    · rw [if_neg y, if_pos (by omega)]; rfl
/-- what of the row a reference's line fills -/
def RfF (v i : Int) : Prop := i = 2 ∨ i = 58 + v ∨ i = 64 + v ∨ i = 70 + v ∨ i = 76 + v ∨ i = 82 + v ∨ i = 88 + v ∨ i = 94 + v ∨ i = 100 + v ∨ i = 106 + v
theorem rfDraft {c g z w : hH} {v x y1 y2 t r o1 o2 fu la : Int} (hD : DI c g) (hv : g 195 2 = v) (hv6 : v < 6) (hLz : Lay z)
    (hx : 0 ≤ x ∧ x < g 195 0) (hy1 : 0 ≤ y1 ∧ y1 < g 195 (4 + x)) (hy2 : -1 ≤ y2 ∧ y2 < g 195 (4 + x)) (ht : 0 ≤ t ∧ t < g 195 0) (hr : 0 ≤ r ∧ r < g 195 1) (k1 : g 195 (40 + r) = t) (k2 : g 195 (52 + r) = -1 ↔ y2 = -1)
    (ho1 : 0 ≤ o1 ∧ o1 ≤ 3) (ho2 : 0 ≤ o2 ∧ o2 ≤ 3) (hfu : fu = 0 ∨ fu = 1) (hla : la = 0 ∨ la = 1)
    (w2 : w 195 2 = v + 1) (n58 : w 195 (58 + v) = x) (n64 : w 195 (64 + v) = y1) (n70 : w 195 (70 + v) = y2) (n76 : w 195 (76 + v) = t) (n82 : w 195 (82 + v) = r) (n88 : w 195 (88 + v) = o1) (n94 : w 195 (94 + v) = o2) (n100 : w 195 (100 + v) = fu) (n106 : w 195 (106 + v) = la)
    (qo : ∀ i, ¬ RfF v i → w 195 i = g 195 i) (w198 : w 198 = g 198)
    (e0 : z 32 (v * 9) = x) (e1 : z 32 (v * 9 + 1) = t) (e2 : z 32 (v * 9 + 2) = r) (e3 : z 32 (v * 9 + 3) = o1) (e4 : z 32 (v * 9 + 4) = o2) (e5 : z 32 (v * 9 + 5) = fu) (e6 : z 32 (v * 9 + 6) = la) (e7 : z 32 (v * 9 + 7) = y1) (e8 : z 32 (v * 9 + 8) = y2)
    (z32 : ∀ i, i < v * 9 ∨ v * 9 + 9 ≤ i → z 32 i = c 32 i)
    (z25 : ∀ i, i ≠ 2 → z 25 i = c 25 i) (z25b : z 25 2 = v + 1) (zr : ∀ a, (26 ≤ a ∧ a < 34) → a ≠ 32 → z a = c a) : DI z w := by
  have hs := hD.2.2.1
  have v0 : 0 ≤ v := by have := hs.2.2.1; omega
  obtain ⟨dA, ⟨⟨r0, r1, r2, r3⟩, rw', rd, rn, rk, rf, rc⟩, -, ⟨nm1, nm2⟩, -⟩ := hD
  have hs0 := hs.1
  have hs1 := hs.2.1
  have hs2 := hs.2.2.1
  have hs3 := hs.2.2.2.1
  refine ⟨schAt_25 hLz, ⟨⟨?_, ?_, ?_, ?_⟩, fun t t0 t1 => ?_, fun i i0 i1 => ?_, fun i i0 i1 => ?_, fun k k0 k1 => ?_, fun f f0 f1 => ?_, fun x x0 x1 => ?_⟩, ?_, ⟨fun t t0 t1 => ?_, fun t x t0 t1 x0 x1 => ?_⟩, Or.inr rfl⟩
  · rw [z25 0 (by decide), qo 0 (by unfold RfF; omega)]; exact r0
  · rw [z25 1 (by decide), qo 1 (by unfold RfF; omega)]; exact r1
  · rw [z25b, w2]
  · rw [z25 3 (by decide), qo 3 (by unfold RfF; omega)]; exact r3
  · rw [qo 0 (by unfold RfF; omega)] at t1
    rw [zr _ (by decide) (by decide), qo (4 + t) (by unfold RfF; omega)]; exact rw' t t0 t1
  · rw [zr _ (by decide) (by decide), qo (8 + i) (by unfold RfF; omega)]; exact rd i i0 i1
  · rw [zr _ (by decide) (by decide), qo (24 + i) (by unfold RfF; omega)]; exact rn i i0 i1
  · rw [qo 1 (by unfold RfF; omega)] at k1
    rw [zr _ (by decide) (by decide), qo (40 + k) (by unfold RfF; omega), qo (46 + k) (by unfold RfF; omega), qo (52 + k) (by unfold RfF; omega)]
    exact rk k k0 k1
  · rw [w2] at f1
    rw [show (25 : Int) + 7 = 32 from rfl]
    by_cases e : f = v
    · subst e
      rw [e0, e1, e2, e3, e4, e5, e6, e7, e8, n58, n64, n70, n76, n82, n88, n94, n100, n106]
      exact ⟨rfl, rfl, rfl, rfl, rfl, rfl, rfl, rfl, rfl⟩
    · rw [z32 (f * 9) (by omega), z32 (f * 9 + 1) (by omega), z32 (f * 9 + 2) (by omega), z32 (f * 9 + 3) (by omega), z32 (f * 9 + 4) (by omega), z32 (f * 9 + 5) (by omega), z32 (f * 9 + 6) (by omega), z32 (f * 9 + 7) (by omega), z32 (f * 9 + 8) (by omega), qo (58 + f) (by unfold RfF; omega), qo (76 + f) (by unfold RfF; omega), qo (82 + f) (by unfold RfF; omega), qo (88 + f) (by unfold RfF; omega), qo (94 + f) (by unfold RfF; omega), qo (100 + f) (by unfold RfF; omega), qo (106 + f) (by unfold RfF; omega), qo (64 + f) (by unfold RfF; omega), qo (70 + f) (by unfold RfF; omega)]
      exact rf f f0 (by omega)
  · rw [qo 3 (by unfold RfF; omega)] at x1
    rw [zr _ (by decide) (by decide), qo (112 + x) (by unfold RfF; omega), qo (118 + x) (by unfold RfF; omega), qo (124 + x) (by unfold RfF; omega), qo (136 + x) (by unfold RfF; omega), qo (130 + x) (by unfold RfF; omega), qo (142 + x) (by unfold RfF; omega)]
    exact rc x x0 x1
  · refine hs.ext (by rw [qo 0 (by unfold RfF; omega)]; exact ⟨Int.le_refl _, hs.1.2⟩) (by rw [qo 1 (by unfold RfF; omega)]; exact ⟨Int.le_refl _, hs.2.1.2⟩) (by rw [w2]; omega) (by rw [qo 3 (by unfold RfF; omega)]; exact ⟨Int.le_refl _, hs.2.2.2.1.2⟩) (fun t t0 t1 => qo _ (by unfold RfF; omega)) (fun t t0 t1 => by rw [qo 0 (by unfold RfF; omega)] at t1; omega) (fun i i0 i1 => by rw [qo (8 + i) (by unfold RfF; omega)]; exact hs.2.2.2.2.2.1 i i0 i1) (fun i i0 i1 => by rw [qo (24 + i) (by unfold RfF; omega)]; exact hs.2.2.2.2.2.2.1 i i0 i1) (fun k k0 k1 => ⟨qo _ (by unfold RfF; omega), qo _ (by unfold RfF; omega), qo _ (by unfold RfF; omega)⟩) (fun k k0 k1 => by rw [qo 1 (by unfold RfF; omega)] at k1; omega) (fun f f0 f1 => ⟨qo _ (by unfold RfF; omega), qo _ (by unfold RfF; omega), qo _ (by unfold RfF; omega), qo _ (by unfold RfF; omega), qo _ (by unfold RfF; omega), qo _ (by unfold RfF; omega), qo _ (by unfold RfF; omega), qo _ (by unfold RfF; omega), qo _ (by unfold RfF; omega)⟩) (fun f f0 f1 => ?_) (fun x x0 x1 => ⟨qo _ (by unfold RfF; omega), qo _ (by unfold RfF; omega), qo _ (by unfold RfF; omega), qo _ (by unfold RfF; omega), qo _ (by unfold RfF; omega), qo _ (by unfold RfF; omega)⟩) (fun x x0 x1 => by rw [qo 3 (by unfold RfF; omega)] at x1; omega)
    rw [w2] at f1
    have : f = v := by omega
    subst this
    rw [n58, n64, n70, n76, n82, n88, n94, n100, n106, qo 0 (by unfold RfF; omega), qo 1 (by unfold RfF; omega), qo (4 + x) (by unfold RfF; omega), qo (40 + r) (by unfold RfF; omega), qo (52 + r) (by unfold RfF; omega)]
    exact ⟨hx, hy1, hy2, ht, hr, k1, k2, ho1, ho2, hfu, hla⟩
  · rw [qo 0 (by unfold RfF; omega)] at t1
    rw [zr _ (by decide) (by decide), w198]; exact nm1 t t0 t1
  · rw [qo 0 (by unfold RfF; omega)] at t1
    rw [qo (4 + t) (by unfold RfF; omega)] at x1
    rw [zr _ (by decide) (by decide), w198]; exact nm2 t x t0 t1 x0 x1
noncomputable def refM (G : hH) (l1 l2 l3 l4 l5 s0 : Int) : Option (Int × hH) :=
  (aput G (G 192 7) (w32 (58 + l1)) l2).bind fun h224 =>
  (aput h224 (h224 192 7) (w32 (64 + l1)) l3).bind fun h234 =>
  (aput h234 (h234 192 7) (w32 (70 + l1)) l4).bind fun h245 =>
  (aput h245 (h245 192 7) (w32 (76 + l1)) l5).bind fun h256 =>
  (aput h256 (h256 192 7) (w32 (82 + l1)) s0).bind fun h267 =>
  (fX12_isWord h267 192 1718971500).bind fun r280 =>
  if r280 = 0 then
    fX12_readRef_b291 h267 192 l1 0 (w32 (100 + l1)) (h267 192 7)
  else
    fX12_readRef_b291 h267 192 l1 1 (w32 (100 + l1)) (h267 192 7)
theorem b174_refM {g : hH} {v x y1 y2 t r : Int} (hr : 0 ≤ r) : fX12_readRef_b174 g 192 v x y1 y2 t r = (fX12_next g 192).bind fun h188 => (fX12_takesOn h188 192 (w32 (88 + v))).bind fun q196 => if q196.1 = 0 then some (0, q196.2) else (fX12_takesOn q196.2 192 (w32 (94 + v))).bind fun q207 => if q207.1 = 0 then some (0, q207.2) else refM q207.2 v x y1 y2 t r := by
  unfold fX12_readRef_b174 refM
  rw [if_neg (show ¬ r < 0 by omega)]
theorem b96_no {C : hH} {a b c : Int} : fX5_readRef_b96 C 24 a b c (-1) = some (0, C) := by
  unfold fX5_readRef_b96
  rw [if_pos rfl]
theorem refTail {C G c g : hH} {j j' v x y1 y2 t r o1 o2 : Int} (hC : Chain B L M n K A V E) (hc : SC n K A V j' C) (hg : SM B L M n K A V E j' G) (hD : DI c g) (fc : Fr lcF c C) (fg : Fr lmF g G) (e8 : C 1 8 = c 1 8) (hj : j + 1 ≤ j') (hv : g 195 2 = v) (hv6 : v < 6)
    (hx : 0 ≤ x ∧ x < g 195 0) (hy1 : 0 ≤ y1 ∧ y1 < g 195 (4 + x)) (hy2 : -1 ≤ y2 ∧ y2 < g 195 (4 + x)) (ht : 0 ≤ t ∧ t < g 195 0) (hr : 0 ≤ r ∧ r < g 195 1) (k1 : g 195 (40 + r) = t) (k2 : g 195 (52 + r) = -1 ↔ y2 = -1)
    (ho1 : 0 ≤ o1 ∧ o1 ≤ 3) (ho2 : 0 ≤ o2 ∧ o2 ≤ 3) (cr : ∀ a, 25 ≤ a → a < 34 → C a = c a) (cx : C 24 3 = x) (cy1 : C 24 4 = y1) (cy2 : C 24 5 = y2)
    (G0 : ∀ i, G 195 i = if i = 94 + v then o2 else if i = 88 + v then o1 else g 195 i) (w198 : G 198 = g 198) :
    ∃ b b' c' g', fX5_readRef_b96 C 24 t r o1 o2 = some (b, c') ∧ refM G v x y1 y2 t r = some (b', g') ∧ LO B L M n K A V E j c g b b' c' g' := by
  have hs := hD.2.2.1
  have v0 : 0 ≤ v := by have := hs.2.2.1; omega
  have l32 : ∀ x : hH, Lay x → x 25 10 = 32 ∧ x 32 (-1) = 54 ∧ x 24 1 = 25 ∧ x 24 0 = 1 := fun x hx => ⟨ly_25_10 hx, ll_32 hx, ly_24_1 hx, ly_24_0 hx⟩
  have c52 : C 25 2 = v := by rw [cr 25 (by decide) (by decide), hD.2.1.1.2.2.1]; exact hv
  have S1 := hc.up25 (a := 32) (b := v * 9 + 0) (v := x) (Or.inr (by omega))
  have S2 := S1.up25 (a := 32) (b := v * 9 + 1) (v := t) (Or.inr (by omega))
  have S3 := S2.up25 (a := 32) (b := v * 9 + 2) (v := r) (Or.inr (by omega))
  have S4 := S3.up25 (a := 32) (b := v * 9 + 3) (v := o1) (Or.inr (by omega))
  have S5 := S4.up25 (a := 32) (b := v * 9 + 4) (v := o2) (Or.inr (by omega))
  unfold fX5_readRef_b96
  rw [if_neg (show ¬ o2 = -1 by omega), (l32 _ hc.1).2.2.1, (l32 _ hc.1).1, c52, cx, w32_id (x := v * 9) (by omega) (by omega), w32_id (x := v * 9 + 0) (by omega) (by omega), w32_id (x := v * 9 + 1) (by omega) (by omega), w32_id (x := v * 9 + 2) (by omega) (by omega), w32_id (x := v * 9 + 3) (by omega) (by omega), w32_id (x := v * 9 + 4) (by omega) (by omega), w32_id (x := v * 9 + 5) (by omega) (by omega), put_in (by omega) (by rw [(l32 _ hc.1).2.1]; omega)]
  simp only [Option.bind_some]
  rw [(l32 _ S1.1).2.2.1, (l32 _ S1.1).1, put_in (by omega) (by rw [(l32 _ S1.1).2.1]; omega)]
  simp only [Option.bind_some]
  rw [(l32 _ S2.1).2.2.1, (l32 _ S2.1).1, put_in (by omega) (by rw [(l32 _ S2.1).2.1]; omega)]
  simp only [Option.bind_some]
  rw [(l32 _ S3.1).2.2.1, (l32 _ S3.1).1, put_in (by omega) (by rw [(l32 _ S3.1).2.1]; omega)]
  simp only [Option.bind_some]
  rw [(l32 _ S4.1).2.2.1, (l32 _ S4.1).1, put_in (by omega) (by rw [(l32 _ S4.1).2.1]; omega)]
  simp only [Option.bind_some]
  generalize hc5 : hup (hup (hup (hup (hup C 32 (v * 9 + 0) x) 32 (v * 9 + 1) t) 32 (v * 9 + 2) r) 32 (v * 9 + 3) o1) 32 (v * 9 + 4) o2 = c5 at S5 ⊢
  have f5 : Fr lcF C c5 := by rw [← hc5]; exact ((((Fr.up (by unfold lcF; simp; omega)).tr (Fr.up (by unfold lcF; simp; omega))).tr (Fr.up (by unfold lcF; simp; omega))).tr (Fr.up (by unfold lcF; simp; omega))).tr (Fr.up (by unfold lcF; simp; omega))
  obtain ⟨c6, j6, o6, s6, f6, p6, q6, m6⟩ := opt2 (g := G) (i := 8) hC S5 (by decide) (by decide)
  rw [(l32 _ S5.1).2.2.1, (l32 _ S5.1).2.2.2, (l32 _ S5.1).1, show (136 : Int) = 128 + 8 from rfl, o6]
  simp only [Option.bind_some]
  have hcl1 : (if (if K j' = 128 + 8 then (1 : Int) else 0) = 0 then fX5_readRef_b226 c6 24 (v * 9) 0 (v * 9 + 5) 32 else fX5_readRef_b226 c6 24 (v * 9) 1 (v * 9 + 5) 32) = fX5_readRef_b226 c6 24 (v * 9) (if K j' = 128 + 8 then (1 : Int) else 0) (v * 9 + 5) 32 := by
    by_cases z : K j' = 128 + 8
    · rw [if_pos z, if_neg (by decide)]
    · rw [if_neg z, if_pos rfl]
  rw [hcl1]
  generalize hfu : (if K j' = 128 + 8 then (1 : Int) else 0) = fu at *
  have hf01 : fu = 0 ∨ fu = 1 := by
    rw [← hfu]; split <;> omega
  have S7 := s6.up25 (a := 32) (b := v * 9 + 5) (v := fu) (Or.inr (by omega))
  unfold fX5_readRef_b226
  rw [put_in (by omega) (by rw [(l32 _ s6.1).2.1]; omega)]
  simp only [Option.bind_some]
  obtain ⟨c8, j8, o8, s8, f8, p8, q8, m8⟩ := opt2 (g := G) (i := 9) hC S7 (by decide) (by decide)
  rw [(l32 _ S7.1).2.2.1, (l32 _ S7.1).2.2.2, (l32 _ S7.1).1, show (137 : Int) = 128 + 9 from rfl, o8, w32_id (x := v * 9 + 6) (by omega) (by omega)]
  simp only [Option.bind_some]
  have hcl2 : (if (if K j6 = 128 + 9 then (1 : Int) else 0) = 0 then fX5_readRef_b259 c8 24 (v * 9) 0 (v * 9 + 6) 32 else fX5_readRef_b259 c8 24 (v * 9) 1 (v * 9 + 6) 32) = fX5_readRef_b259 c8 24 (v * 9) (if K j6 = 128 + 9 then (1 : Int) else 0) (v * 9 + 6) 32 := by
    by_cases z : K j6 = 128 + 9
    · rw [if_pos z, if_neg (by decide)]
    · rw [if_neg z, if_pos rfl]
  rw [hcl2]
  generalize hla : (if K j6 = 128 + 9 then (1 : Int) else 0) = la at *
  have hl01 : la = 0 ∨ la = 1 := by
    rw [← hla]; split <;> omega
  have r24 : c8 24 = C 24 := by rw [tkF_row f8 (by decide), hup_off (by decide), tkF_row f6 (by decide), ← hc5, hup_off (by decide), hup_off (by decide), hup_off (by decide), hup_off (by decide), hup_off (by decide)]
  have S9 := s8.up25 (a := 32) (b := v * 9 + 6) (v := la) (Or.inr (by omega))
  have S10 := S9.up25 (a := 32) (b := v * 9 + 7) (v := y1) (Or.inr (by omega))
  have S11 := S10.up25 (a := 32) (b := v * 9 + 8) (v := y2) (Or.inr (by omega))
  unfold fX5_readRef_b259
  rw [put_in (by omega) (by rw [(l32 _ s8.1).2.1]; omega)]
  simp only [Option.bind_some]
  rw [(l32 _ S9.1).2.2.1, (l32 _ S9.1).1, hup_off (a := 24) (by decide), r24, cy1, w32_id (x := v * 9 + 7) (by omega) (by omega), put_in (by omega) (by rw [(l32 _ S9.1).2.1]; omega)]
  simp only [Option.bind_some]
  rw [(l32 _ S10.1).2.2.1, (l32 _ S10.1).1, hup_off (a := 24) (by decide), hup_off (a := 24) (by decide), r24, cy2, w32_id (x := v * 9 + 8) (by omega) (by omega), put_in (by omega) (by rw [(l32 _ S10.1).2.1]; omega)]
  simp only [Option.bind_some, pput]
  have c82 : c8 25 = C 25 := by rw [tkF_row f8 (by decide), hup_off (by decide), tkF_row f6 (by decide), ← hc5, hup_off (by decide), hup_off (by decide), hup_off (by decide), hup_off (by decide), hup_off (by decide)]
  rw [(l32 _ S11.1).2.2.1, hup_off (a := 25) (by decide), hup_off (a := 25) (by decide), hup_off (a := 25) (by decide), c82, c52, w32_id (x := v + 1) (by omega) (by omega)]
  have S12 := S11.up25 (a := 25) (b := 2) (v := v + 1) (Or.inl (by omega))
  generalize hz : hup (hup (hup (hup c8 32 (v * 9 + 6) la) 32 (v * 9 + 7) y1) 32 (v * 9 + 8) y2) 25 2 (v + 1) = z at S12 ⊢
  have fz : Fr lcF c z := fc.tr (f5.tr ((f6.mono (fun a b z => tk_lc z)).tr ((Fr.up (by unfold lcF; simp; omega)).tr ((f8.mono (fun a b z => tk_lc z)).tr (by rw [← hz]; exact (((Fr.up (by unfold lcF; simp; omega)).tr (Fr.up (by unfold lcF; simp; omega))).tr (Fr.up (by unfold lcF; simp; omega))).tr (Fr.up (by decide)))))))
  have z8 : z 1 8 = c 1 8 := by rw [← hz, hup_off (by decide), hup_off (by decide), hup_off (by decide), hup_off (by decide), p8, hup_off (by decide), p6, ← hc5, hup_off (by decide), hup_off (by decide), hup_off (by decide), hup_off (by decide), hup_off (by decide)]; exact e8
  have z32 : ∀ i, z 32 i = if i = v * 9 + 8 then y2 else if i = v * 9 + 7 then y1 else if i = v * 9 + 6 then la else if i = v * 9 + 5 then fu else if i = v * 9 + 4 then o2 else if i = v * 9 + 3 then o1 else if i = v * 9 + 2 then r else if i = v * 9 + 1 then t else if i = v * 9 + 0 then x else c 32 i := fun i => by
    rw [← hz, hup_off (by decide), hup_row, hup_row, hup_row, tkF_row f8 (by decide), hup_row, tkF_row f6 (by decide), ← hc5, hup_row, hup_row, hup_row, hup_row, hup_row, cr 32 (by decide) (by decide)]
    rfl
  have z25 : ∀ i, i ≠ 2 → z 25 i = c 25 i := fun i hi => by
    rw [← hz, hup_ne (fun y => hi y.2), hup_off (by decide), hup_off (by decide), hup_off (by decide), c82, cr 25 (by decide) (by decide)]
  -- the model
  have U1 := hg.up195 (b := 58 + v) (v := x) (by omega)
  have U2 := U1.up195 (b := 64 + v) (v := y1) (by omega)
  have U3 := U2.up195 (b := 70 + v) (v := y2) (by omega)
  have U4 := U3.up195 (b := 76 + v) (v := t) (by omega)
  have U5 := U4.up195 (b := 82 + v) (v := r) (by omega)
  unfold refM
  rw [w32_id (x := 58 + v) (by omega) (by omega), w32_id (x := 64 + v) (by omega) (by omega), w32_id (x := 70 + v) (by omega) (by omega), w32_id (x := 76 + v) (by omega) (by omega), w32_id (x := 82 + v) (by omega) (by omega), w32_id (x := 100 + v) (by omega) (by omega), put195 hg.1.1 (by omega) (by omega)]
  simp only [Option.bind_some]
  rw [put195 U1.1.1 (by omega) (by omega)]
  simp only [Option.bind_some]
  rw [put195 U2.1.1 (by omega) (by omega)]
  simp only [Option.bind_some]
  rw [put195 U3.1.1 (by omega) (by omega)]
  simp only [Option.bind_some]
  rw [put195 U4.1.1 (by omega) (by omega)]
  simp only [Option.bind_some]
  generalize hg5 : hup (hup (hup (hup (hup G 195 (58 + v) x) 195 (64 + v) y1) 195 (70 + v) y2) 195 (76 + v) t) 195 (82 + v) r = g5 at U5 ⊢
  have fg5 : Fr lmF g g5 := fg.tr (by rw [← hg5]; exact ((((Fr.up (by unfold lmF; simp; omega)).tr (Fr.up (by unfold lmF; simp; omega))).tr (Fr.up (by unfold lmF; simp; omega))).tr (Fr.up (by unfold lmF; simp; omega))).tr (Fr.up (by unfold lmF; simp; omega)))
  rw [full_w, (m6 _ U5).1]
  simp only [Option.bind_some]
  have hm1 : (if fu = 0 then fX12_readRef_b291 g5 192 v 0 (100 + v) (g5 192 7) else fX12_readRef_b291 g5 192 v 1 (100 + v) (g5 192 7)) = fX12_readRef_b291 g5 192 v fu (100 + v) (g5 192 7) := by
    rcases hf01 with y | y
    · rw [if_pos y, y]
    · rw [if_neg (by omega), y]
  rw [hm1]
  have U6 := U5.up195 (b := 100 + v) (v := fu) (by omega)
  unfold fX12_readRef_b291
  rw [put195 U5.1.1 (by omega) (by omega)]
  simp only [Option.bind_some]
  rw [full_w, (m6 _ U6).1]
  simp only [Option.bind_some]
  obtain ⟨g7, x1, x2, x3⟩ : ∃ g7, (if fu = 0 then fX12_readRef_b306 (hup g5 195 (100 + v) fu) 192 v else (fX12_next (hup g5 195 (100 + v) fu) 192).bind fun h303 => fX12_readRef_b306 h303 192 v) = fX12_readRef_b306 g7 192 v ∧ SM B L M n K A V E j6 g7 ∧ Fr nxC (hup g5 195 (100 + v) fu) g7 := by
    obtain ⟨-, n1, n2⟩ := m6 _ U6
    by_cases y : K j' = 128 + 8
    · obtain ⟨g4, a1, a2, a3⟩ := n2 y
      rw [if_pos y] at hfu
      refine ⟨g4, ?_, a2, a3⟩
      rw [← hfu, if_neg (by decide)]
      rw [← hfu] at a1
      rw [a1]
      rfl
    · rw [if_neg y] at hfu
      refine ⟨_, by rw [← hfu, if_pos rfl], by rw [n1 y]; exact U6, Fr.rf⟩
  rw [x1]
  unfold fX12_readRef_b306
  rw [late_w, (m8 _ x2).1, w32_id (x := 106 + v) (by omega) (by omega)]
  simp only [Option.bind_some]
  have hm2 : (if la = 0 then fX12_readRef_b329 g7 192 0 (106 + v) (g7 192 7) else fX12_readRef_b329 g7 192 1 (106 + v) (g7 192 7)) = fX12_readRef_b329 g7 192 la (106 + v) (g7 192 7) := by
    rcases hl01 with y | y
    · rw [if_pos y, y]
    · rw [if_neg (by omega), y]
  rw [hm2]
  have U8 := x2.up195 (b := 106 + v) (v := la) (by omega)
  unfold fX12_readRef_b329
  rw [put195 x2.1.1 (by omega) (by omega)]
  simp only [Option.bind_some]
  rw [late_w, (m8 _ U8).1]
  simp only [Option.bind_some]
  obtain ⟨g9, y1', y2', y3'⟩ : ∃ g9, (if la = 0 then fX12_readRef_b344 (hup g7 195 (106 + v) la) 192 else (fX12_next (hup g7 195 (106 + v) la) 192).bind fun h341 => fX12_readRef_b344 h341 192) = fX12_readRef_b344 g9 192 ∧ SM B L M n K A V E j8 g9 ∧ Fr nxC (hup g7 195 (106 + v) la) g9 := by
    obtain ⟨-, n1, n2⟩ := m8 _ U8
    by_cases y : K j6 = 128 + 9
    · obtain ⟨g4, a1, a2, a3⟩ := n2 y
      rw [if_pos y] at hla
      refine ⟨g4, ?_, a2, a3⟩
      rw [← hla, if_neg (by decide)]
      rw [← hla] at a1
      rw [a1]
      rfl
    · rw [if_neg y] at hla
      refine ⟨_, by rw [← hla, if_pos rfl], by rw [n1 y]; exact U8, Fr.rf⟩
  rw [y1']
  unfold fX12_readRef_b344
  have t7 : ∀ a, a ≠ 192 → g7 a = hup g5 195 (100 + v) fu a := fun a ha => txF_row (x3.mono (fun a b z => nx_tx z)) ha
  have t9 : ∀ a, a ≠ 192 → g9 a = hup g7 195 (106 + v) la a := fun a ha => txF_row (y3'.mono (fun a b z => nx_tx z)) ha
  have g9w : ∀ i, g9 195 i = if i = 106 + v then la else if i = 100 + v then fu else if i = 82 + v then r else if i = 76 + v then t else if i = 70 + v then y2 else if i = 64 + v then y1 else if i = 58 + v then x else if i = 94 + v then o2 else if i = 88 + v then o1 else g 195 i := fun i => by
    rw [t9 195 (by decide), hup_row, t7 195 (by decide), hup_row, ← hg5, hup_row, hup_row, hup_row, hup_row, hup_row]
    unfold up1
    rw [G0]
  have g92 : g9 195 2 = v := by rw [g9w, if_neg (by omega), if_neg (by omega), if_neg (by omega), if_neg (by omega), if_neg (by omega), if_neg (by omega), if_neg (by omega), if_neg (by omega), if_neg (by omega)]; exact hv
  rw [row195 y2'.1.1 (by decide) (by decide), g92]
  simp only [Option.bind_some]
  rw [put195 y2'.1.1 (by decide) (by decide), w32_id (x := v + 1) (by omega) (by omega)]
  simp only [Option.bind_some]
  have U10 := y2'.up195 (b := 2) (v := v + 1) (by decide)
  generalize hw : hup g9 195 2 (v + 1) = w at U10 ⊢
  have fw : Fr lmF g w := fg5.tr ((Fr.up (by unfold lmF; simp; omega)).tr ((x3.mono (fun a b z => tx_lm (nx_tx z))).tr ((Fr.up (by unfold lmF; simp; omega)).tr ((y3'.mono (fun a b z => tx_lm (nx_tx z))).tr (by rw [← hw]; exact Fr.up (by decide))))))
  have w195 : ∀ i, w 195 i = if i = 2 then v + 1 else g9 195 i := fun i => by
    rw [← hw, hup_row]
    rfl
  refine ⟨1, 1, z, w, rfl, rfl, fz, fw, Or.inr ⟨rfl, j8, S12, by omega, z8, Or.inl ⟨rfl, U10, ?_⟩⟩⟩
  have w9 : ∀ i, i ≠ 2 → w 195 i = g9 195 i := fun i hi => by rw [w195, if_neg hi]
  exact rfDraft (x := x) (y1 := y1) (y2 := y2) (t := t) (r := r) (o1 := o1) (o2 := o2) (fu := fu) (la := la) hD hv hv6 S12.1 hx hy1 hy2 ht hr k1 k2 ho1 ho2 hf01 hl01 (by rw [w195, if_pos rfl]) (by rw [w9 _ (by omega), g9w, if_neg (by omega), if_neg (by omega), if_neg (by omega), if_neg (by omega), if_neg (by omega), if_neg (by omega), if_pos rfl]) (by rw [w9 _ (by omega), g9w, if_neg (by omega), if_neg (by omega), if_neg (by omega), if_neg (by omega), if_neg (by omega), if_pos rfl]) (by rw [w9 _ (by omega), g9w, if_neg (by omega), if_neg (by omega), if_neg (by omega), if_neg (by omega), if_pos rfl]) (by rw [w9 _ (by omega), g9w, if_neg (by omega), if_neg (by omega), if_neg (by omega), if_pos rfl]) (by rw [w9 _ (by omega), g9w, if_neg (by omega), if_neg (by omega), if_pos rfl]) (by rw [w9 _ (by omega), g9w, if_neg (by omega), if_neg (by omega), if_neg (by omega), if_neg (by omega), if_neg (by omega), if_neg (by omega), if_neg (by omega), if_neg (by omega), if_pos rfl]) (by rw [w9 _ (by omega), g9w, if_neg (by omega), if_neg (by omega), if_neg (by omega), if_neg (by omega), if_neg (by omega), if_neg (by omega), if_neg (by omega), if_pos rfl]) (by rw [w9 _ (by omega), g9w, if_neg (by omega), if_pos rfl]) (by rw [w9 _ (by omega), g9w, if_pos rfl]) (fun i hi => by
    unfold RfF at hi
    rw [w9 _ (by omega), g9w, if_neg (by omega), if_neg (by omega), if_neg (by omega), if_neg (by omega), if_neg (by omega), if_neg (by omega), if_neg (by omega), if_neg (by omega), if_neg (by omega)]) (by rw [← hw, hup_off (by decide), t9 198 (by decide), hup_off (by decide), t7 198 (by decide), hup_off (by decide), ← hg5, hup_off (by decide), hup_off (by decide), hup_off (by decide), hup_off (by decide), hup_off (by decide)]; exact w198) (by rw [z32, if_neg (by omega), if_neg (by omega), if_neg (by omega), if_neg (by omega), if_neg (by omega), if_neg (by omega), if_neg (by omega), if_neg (by omega), if_pos (by omega)]) (by rw [z32, if_neg (by omega), if_neg (by omega), if_neg (by omega), if_neg (by omega), if_neg (by omega), if_neg (by omega), if_neg (by omega), if_pos (by omega)]) (by rw [z32, if_neg (by omega), if_neg (by omega), if_neg (by omega), if_neg (by omega), if_neg (by omega), if_neg (by omega), if_pos (by omega)]) (by rw [z32, if_neg (by omega), if_neg (by omega), if_neg (by omega), if_neg (by omega), if_neg (by omega), if_pos (by omega)]) (by rw [z32, if_neg (by omega), if_neg (by omega), if_neg (by omega), if_neg (by omega), if_pos (by omega)]) (by rw [z32, if_neg (by omega), if_neg (by omega), if_neg (by omega), if_pos (by omega)]) (by rw [z32, if_neg (by omega), if_neg (by omega), if_pos (by omega)]) (by rw [z32, if_neg (by omega), if_pos (by omega)]) (by rw [z32, if_pos (by omega)]) (fun i hi => by rw [z32, if_neg (by omega), if_neg (by omega), if_neg (by omega), if_neg (by omega), if_neg (by omega), if_neg (by omega), if_neg (by omega), if_neg (by omega), if_neg (by omega)]) z25 (by rw [← hz, hup_at]) (fun a ha hn => by rw [← hz, hup_off (by omega), hup_off hn, hup_off hn, hup_off hn, tkF_row f8 (by omega), hup_off hn, tkF_row f6 (by omega), ← hc5, hup_off hn, hup_off hn, hup_off hn, hup_off hn, hup_off hn]; exact cr a (by omega) (by omega))
theorem b65_key {C : hH} {t two : Int} : (fX5_takeKey C 24 t two).bind (fun q65 => fX5_readRef_b68 q65.2 24 t q65.1) = fX5_readRef_b65 C 24 t two t 24 := rfl
theorem readRef2 {c g : hH} {j : Int} (hC : Chain B L M n K A V E) (hc : SC n K A V j c) (hg : SM B L M n K A V E j g) (hD : DI c g) (hk : K j = 130) (h6 : g 195 2 < 6) : ∃ b b' c' g', fX5_readRef c 24 = some (b, c') ∧ fX12_readRef g 192 = some (b', g') ∧ LO B L M n K A V E j c g b b' c' g' := by
  have hs := hD.2.2.1
  have v0 := hs.2.2.1.1
  have n1 := nx_s hC hc.2.2.2.2 (by omega) (by omega)
  obtain ⟨c1, k1, k2, k3, k4, -⟩ := stepC hC hc
  obtain ⟨g1, m1, m2, m3⟩ := nextM hC hg
  have fg1 : Fr smF g g1 := m3.mono (fun a b z => tx_sm (nx_tx z))
  have fc1 : Fr scF c c1 := k3.mono (fun a b z => tk_sc z)
  have e195 : g1 195 = g 195 := sm_row fg1 (by decide)
  have hD1 : DI c1 g1 := hD.sc fc1 fg1
  obtain ⟨b, b1, c2, g2, h1, h2, h3, h4, h5⟩ := takeCols2 hC k2 m2 hD1
  unfold fX5_readRef fX12_readRef
  rw [row195 hg.1.1 (by decide) (by decide), m1, ly_24_0 hc.1, k1]
  simp only [Option.bind_some]
  rw [h1, h2]
  simp only [Option.bind_some]
  generalize hv : g 195 2 = v at *
  have fc2 : Fr scF c c2 := fc1.tr h3
  have fg2 : Fr smF g g2 := fg1.tr h4
  rcases h5 with ⟨rfl, rfl, f⟩ | ⟨rfl, ht, b2, g3, q1, q2, q3⟩
  · rw [if_pos rfl, if_pos rfl]
    exact ⟨0, 0, c2, g2, rfl, rfl, fc2.mono (fun a b z => sc_lc z), fg2.mono (fun a b z => sm_lm z), Or.inl ⟨rfl, rfl, f⟩⟩
  rw [if_neg (show ¬ (1 : Int) = 0 by decide), q1]
  simp only [Option.bind_some]
  have fg3 : Fr smF g g3 := fg2.tr q2
  rcases q3 with ⟨rfl, rfl, f⟩ | ⟨rfl, j2, ⟨x3, x4, x5⟩, S2, jj, e8, q4⟩
  · rw [if_pos rfl, if_pos rfl]
    exact ⟨0, 0, c2, g3, rfl, rfl, fc2.mono (fun a b z => sc_lc z), fg3.mono (fun a b z => sm_lm z), Or.inl ⟨rfl, rfl, f⟩⟩
  rw [if_neg (show ¬ (1 : Int) = 0 by decide), ly_24_0 S2.1]
  rw [e195] at ht x4 x5
  have e18 : c2 1 8 = c 1 8 := by rw [e8]; exact k4
  rcases q4 with ⟨rfl, y1, y2, U2⟩ | ⟨rfl, f, kl, kn⟩
  rotate_left
  · obtain ⟨c3, f1, f2, f3⟩ := failC (k := 1) S2
    have ht : fX9_take c2 1 131 = some (0, c3) := by
      unfold fX9_take
      rw [S2.k, if_neg kn, f1]
      rfl
    rw [ht, if_pos rfl]
    simp only [Option.bind_some, if_true]
    exact ⟨0, 0, c3, g3, rfl, rfl, (fc2.tr (f3.mono (fun a b z => tk_sc z))).mono (fun a b z => sc_lc z), fg3.mono (fun a b z => sm_lm z), Or.inl ⟨rfl, rfl, 1, A j2, f2, f, by decide⟩⟩
  rw [if_neg (show ¬ (1 : Int) = 0 by decide), (on_w).2.2.2.2, isWordM U2 (by decide) (by decide)]
  simp only [Option.bind_some]
  by_cases kt : K j2 = 131
  rotate_left
  · obtain ⟨c3, f1, f2, f3⟩ := failC (k := 1) S2
    obtain ⟨g4, p1, p2, p3⟩ := badM (k := 1) U2
    have ht : fX9_take c2 1 131 = some (0, c3) := by
      unfold fX9_take
      rw [S2.k, if_neg kt, f1]
      rfl
    rw [ht, if_neg (show ¬ K j2 = 128 + 3 by omega), if_pos rfl, p1]
    simp only [Option.bind_some, if_true]
    exact ⟨0, 0, c3, g4, rfl, rfl, (fc2.tr (f3.mono (fun a b z => tk_sc z))).mono (fun a b z => sc_lc z), (fg3.tr (p3.mono (fun a b z => tx_sm z))).mono (fun a b z => sm_lm z), Or.inl ⟨rfl, rfl, 1, A j2, f2, p2, by decide⟩⟩
  obtain ⟨c3, s1, s2, s3, s4, -⟩ := stepC hC S2
  obtain ⟨g4, p1, p2, p3⟩ := nextM hC U2
  have ht3 : fX9_take c2 1 131 = some (1, c3) := by
    unfold fX9_take
    rw [S2.k, if_pos kt, s1]
    rfl
  rw [ht3, if_pos (show K j2 = 128 + 3 by omega), if_neg (show ¬ (1 : Int) = 0 by decide), p1]
  simp only [Option.bind_some]
  rw [if_neg (show ¬ (1 : Int) = 0 by decide), ly_24_0 s2.1, ly_24_1 s2.1]
  have fc3 : Fr scF c c3 := fc2.tr (s3.mono (fun a b z => tk_sc z))
  have fg4 : Fr smF g g4 := fg3.tr (p3.mono (fun a b z => tx_sm (nx_tx z)))
  have hD3 : DI c3 g4 := hD.sc fc3 fg4
  obtain ⟨t, b4, c5, g5, o1, o2, o3⟩ := tableS hC s2 p2 hD3
  rw [o1, o2]
  simp only [Option.bind_some]
  have jle := @nx_le n j2
  have e18' : c3 1 8 = c 1 8 := by rw [s4]; exact e18
  have x24 : c3 24 = c2 24 := tkF_row s3 (by decide)
  rcases o3 with ⟨rfl, rfl, ⟨f, fc5, fg5⟩⟩ | ⟨hx, rfl, e19, S5, U5, fc5, fg5, e85⟩
  · rw [if_pos rfl, if_pos rfl]
    unfold fX5_readRef_b68 fX5_readRef_b82
    rw [if_pos rfl, if_pos rfl, b96_no]
    exact ⟨0, 0, c5, g5, rfl, rfl, (fc3.tr (fc5.mono (fun a b z => tk_sc z))).mono (fun a b z => sc_lc z), (fg4.tr (fg5.mono (fun a b z => tx_sm z))).mono (fun a b z => sm_lm z), Or.inl ⟨rfl, rfl, f⟩⟩
  have fc5' : Fr scF c c5 := fc3.tr (fc5.mono (fun a b z => tk_sc z))
  have fg5' : Fr smF g g5 := fg4.tr (fg5.mono (fun a b z => tx_sm z))
  have hD5 : DI c5 g5 := hD.sc fc5' fg5'
  have e195' : g5 195 = g 195 := sm_row fg5' (by decide)
  have e4w : g4 195 = g 195 := sm_row fg4 (by decide)
  rw [e4w] at hx
  have x24' : c5 24 = c2 24 := by rw [tkF_row fc5 (by decide)]; exact x24
  rw [if_neg (show ¬ t = -1 by omega), if_neg (show ¬ (1 : Int) = 0 by decide), e19, y1, y2, x24']
  generalize hX : c2 24 3 = x at *
  generalize hY1 : c2 24 4 = w1 at *
  generalize hY2 : c2 24 5 = w2 at *
  have hX' : g2 192 19 = x := x3.symm
  rw [hX'] at ht x4 x5 ⊢
  obtain ⟨r, C6, two, htwo, r1, r2, r3⟩ := keyRef2 (v := v) (x := x) (y1 := w1) (y2 := w2) hC S5 U5 hD5 (by rw [e195']; exact hx) x5.1
  have hcls : (if w2 = -1 then fX5_readRef_b65 c5 24 t 0 t 24 else fX5_readRef_b65 c5 24 t 1 t 24) = fX5_readRef_b68 C6 24 t r := by
    have : (if w2 = -1 then fX5_readRef_b65 c5 24 t 0 t 24 else fX5_readRef_b65 c5 24 t 1 t 24) = fX5_readRef_b65 c5 24 t two t 24 := by
      rw [htwo]
      by_cases z : w2 = -1
      · rw [if_pos z, if_pos z]
      · rw [if_neg z, if_neg z]
    rw [this]
    unfold fX5_readRef_b65
    rw [r1]
    rfl
  rw [hcls]
  have hmod : (if w2 < 0 then fX12_readRef_b99 g5 192 v x w1 w2 t else (fX12_takesCol g5 192 t).bind fun q91 => if q91.1 = 0 then some (0, q91.2) else fX12_readRef_b99 q91.2 192 v x w1 w2 t) = keyM g5 v x w1 w2 t := rfl
  rw [hmod]
  have fc6 : Fr scF c C6 := fc5'.tr (r2.mono (fun a b z => tk_sc z))
  rcases r3 with ⟨rfl, k, a, g6, r4, r5, r6, r7, r8⟩ | ⟨r4, r5, r6, j6, g6, r7, S6, e86, U6, fg6, r8⟩
  · rw [r5]
    unfold fX5_readRef_b68 fX5_readRef_b82
    rw [if_pos rfl, if_pos rfl, b96_no]
    exact ⟨0, 0, C6, g6, rfl, rfl, fc6.mono (fun a b z => sc_lc z), (fg5'.tr (r7.mono (fun a b z => tx_sm z))).mono (fun a b z => sm_lm z), Or.inl ⟨rfl, rfl, k, a, r4, r6, r8⟩⟩
  rw [e195'] at r4 r5 r6
  have fg6' : Fr smF g g6 := fg5'.tr (fg6.mono (fun a b z => tx_sm z))
  obtain ⟨g7, n1', n2, n3⟩ := nextM hC U6
  rw [r8, b174_refM r4.1, n1', w32_id (x := 88 + v) (by omega) (by omega), w32_id (x := 94 + v) (by omega) (by omega)]
  simp only [Option.bind_some]
  have fg7 : Fr smF g g7 := fg6'.tr (n3.mono (fun a b z => tx_sm (nx_tx z)))
  unfold fX5_readRef_b68 fX5_readRef_b82
  rw [if_neg (show ¬ r = -1 by omega)]
  obtain ⟨a1, c8, b8, g8, t1, t2, t3, t4⟩ := takeOn2 (i := 88 + v) hC S6 n2 (by omega) (by omega)
  rw [t1, t2]
  simp only [Option.bind_some]
  have fc8 : Fr scF c c8 := fc6.tr (t3.mono (fun a b z => tk_sc z))
  rcases t4 with ⟨rfl, rfl, f1, f2, f3⟩ | ⟨ha1, rfl, S8, e88, U8, fg8⟩
  · rw [if_pos rfl, if_pos rfl, b96_no]
    exact ⟨0, 0, c8, g8, rfl, rfl, fc8.mono (fun a b z => sc_lc z), (fg7.tr (f3.mono (fun a b z => tx_sm z))).mono (fun a b z => sm_lm z), Or.inl ⟨rfl, rfl, 1, _, f1, f2, by decide⟩⟩
  rw [if_neg (show ¬ a1 = -1 by omega), if_neg (show ¬ (1 : Int) = 0 by decide)]
  obtain ⟨a2, c9, b9, g9, d1, d2, d3, d4⟩ := takeOn2 (i := 94 + v) hC S8 U8 (by omega) (by omega)
  rw [d1, d2]
  simp only [Option.bind_some]
  have fc9 : Fr scF c c9 := fc8.tr (d3.mono (fun a b z => tk_sc z))
  have fg8' : Fr lmF g g8 := (fg7.mono (fun a b z => sm_lm z)).tr ((Fr.up (by unfold lmF; simp; omega)).tr (fg8.mono (fun a b z => tx_lm (nx_tx z))))
  rcases d4 with ⟨rfl, rfl, f1, f2, f3⟩ | ⟨ha2, rfl, S9, e89, U9, fg9⟩
  · rw [if_pos rfl, b96_no]
    exact ⟨0, 0, c9, g9, rfl, rfl, fc9.mono (fun a b z => sc_lc z), fg8'.tr (f3.mono (fun a b z => tx_lm z)), Or.inl ⟨rfl, rfl, 1, _, f1, f2, by decide⟩⟩
  rw [if_neg (show ¬ (1 : Int) = 0 by decide)]
  have fg9' : Fr lmF g g9 := fg8'.tr ((Fr.up (by unfold lmF; simp; omega)).tr (fg9.mono (fun a b z => tx_lm (nx_tx z))))
  have x24'' : c9 24 = c2 24 := by rw [tkF_row d3 (by decide), tkF_row t3 (by decide), tkF_row r2 (by decide)]; exact x24'
  have j1 := @nx_le n (nx n j2)
  have j2' := @nx_le n j6
  have j3' := @nx_le n (nx n j6)
  have j4' := @nx_le n (nx n (nx n j6))
  have j5' := @nx_le n j
  exact refTail hC S9 U9 hD (fc9.mono (fun a b z => sc_lc z)) fg9' (by rw [e89, e88, e86, e85]; exact e18') (by omega) hv h6 ht x4 x5 hx r4 r5 r6 ha1 ha2 (fun a a0 a1 => sc_row fc9 (by omega) (by omega)) (by rw [x24'']; exact hX) (by rw [x24'']; exact hY1) (by rw [x24'']; exact hY2) (fun i => by
    rw [txF_row (fg9.mono (fun a b z => nx_tx z)) (by decide), hup_row, txF_row (fg8.mono (fun a b z => nx_tx z)) (by decide), hup_row, sm_row fg7 (by decide)]
    rfl) (by rw [txF_row (fg9.mono (fun a b z => nx_tx z)) (by decide), hup_off (by decide), txF_row (fg8.mono (fun a b z => nx_tx z)) (by decide), hup_off (by decide), sm_row fg7 (by decide)])
end SIM
