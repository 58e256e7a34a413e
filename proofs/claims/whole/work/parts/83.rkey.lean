/-! READING A SCHEMA: keys, needs, defaults -/
theorem SOk.ext {s s' : Int → Int} (hs : SOk s) (h0 : s 0 ≤ s' 0 ∧ s' 0 ≤ 4) (h1 : s 1 ≤ s' 1 ∧ s' 1 ≤ 6) (h2 : s 2 ≤ s' 2 ∧ s' 2 ≤ 6) (h3 : s 3 ≤ s' 3 ∧ s' 3 ≤ 6)
    (q4 : ∀ t, 0 ≤ t → t < s 0 → s' (4 + t) = s (4 + t)) (n4 : ∀ t, s 0 ≤ t → t < s' 0 → 1 ≤ s' (4 + t) ∧ s' (4 + t) ≤ 4)
    (n8 : ∀ i, 0 ≤ i → i < 16 → -1 ≤ s' (8 + i) ∧ s' (8 + i) ≤ 99) (n24 : ∀ i, 0 ≤ i → i < 16 → s' (24 + i) = 0 ∨ s' (24 + i) = 1)
    (qk : ∀ k, 0 ≤ k → k < s 1 → s' (40 + k) = s (40 + k) ∧ s' (46 + k) = s (46 + k) ∧ s' (52 + k) = s (52 + k))
    (nk : ∀ k, s 1 ≤ k → k < s' 1 → (0 ≤ s' (40 + k) ∧ s' (40 + k) < s' 0) ∧ (0 ≤ s' (46 + k) ∧ s' (46 + k) < s' (4 + s' (40 + k))) ∧ (-1 ≤ s' (52 + k) ∧ s' (52 + k) < s' (4 + s' (40 + k))))
    (qf : ∀ f, 0 ≤ f → f < s 2 → s' (58 + f) = s (58 + f) ∧ s' (64 + f) = s (64 + f) ∧ s' (70 + f) = s (70 + f) ∧ s' (76 + f) = s (76 + f) ∧ s' (82 + f) = s (82 + f) ∧ s' (88 + f) = s (88 + f) ∧ s' (94 + f) = s (94 + f) ∧ s' (100 + f) = s (100 + f) ∧ s' (106 + f) = s (106 + f))
    (nf : ∀ f, s 2 ≤ f → f < s' 2 → (0 ≤ s' (58 + f) ∧ s' (58 + f) < s' 0) ∧ (0 ≤ s' (64 + f) ∧ s' (64 + f) < s' (4 + s' (58 + f))) ∧ (-1 ≤ s' (70 + f) ∧ s' (70 + f) < s' (4 + s' (58 + f))) ∧ (0 ≤ s' (76 + f) ∧ s' (76 + f) < s' 0) ∧ (0 ≤ s' (82 + f) ∧ s' (82 + f) < s' 1) ∧ s' (40 + s' (82 + f)) = s' (76 + f) ∧ (s' (52 + s' (82 + f)) = -1 ↔ s' (70 + f) = -1) ∧ (0 ≤ s' (88 + f) ∧ s' (88 + f) ≤ 3) ∧ (0 ≤ s' (94 + f) ∧ s' (94 + f) ≤ 3) ∧ (s' (100 + f) = 0 ∨ s' (100 + f) = 1) ∧ (s' (106 + f) = 0 ∨ s' (106 + f) = 1))
    (qc : ∀ c, 0 ≤ c → c < s 3 → s' (112 + c) = s (112 + c) ∧ s' (118 + c) = s (118 + c) ∧ s' (124 + c) = s (124 + c) ∧ s' (130 + c) = s (130 + c) ∧ s' (136 + c) = s (136 + c) ∧ s' (142 + c) = s (142 + c))
    (nc : ∀ c, s 3 ≤ c → c < s' 3 → (0 ≤ s' (112 + c) ∧ s' (112 + c) < s' 0) ∧ (0 ≤ s' (118 + c) ∧ s' (118 + c) < s' (4 + s' (112 + c))) ∧ (s' (124 + c) = 60 ∨ s' (124 + c) = 61 ∨ s' (124 + c) = 62) ∧ (-1 ≤ s' (136 + c) ∧ s' (136 + c) < s' (4 + s' (112 + c))) ∧ (s' (136 + c) = -1 → 0 ≤ s' (130 + c) ∧ s' (130 + c) ≤ 99) ∧ (s' (142 + c) = 0 ∨ s' (142 + c) = 1)) : SOk s' := by
  obtain ⟨p0, p1, p2, p3, p4, p5, p6, p7, p8, p9⟩ := hs
  refine ⟨by omega, by omega, by omega, by omega, fun t t0 t1 => ?_, n8, n24, fun k k0 k1 => ?_, fun f f0 f1 => ?_, fun c c0 c1 => ?_⟩
  · by_cases z : t < s 0
    · rw [q4 t t0 z]; exact p4 t t0 z
    · exact n4 t (by omega) t1
  · by_cases z : k < s 1
    · obtain ⟨a, b, d⟩ := qk k k0 z
      have := p7 k k0 z
      rw [a, b, d, q4 _ this.1.1 this.1.2]
      omega
    · exact nk k (by omega) k1
  · by_cases z : f < s 2
    · obtain ⟨e1, e2, e3, e4, e5, e6, e7, e8, e9⟩ := qf f f0 z
      have := p8 f f0 z
      obtain ⟨a, b, d⟩ := qk (s (82 + f)) this.2.2.2.2.1.1 this.2.2.2.2.1.2
      rw [e1, e2, e3, e4, e5, e6, e7, e8, e9, q4 _ this.1.1 this.1.2, a, d]
      omega
    · exact nf f (by omega) f1
  · by_cases z : c < s 3
    · obtain ⟨e1, e2, e3, e4, e5, e6⟩ := qc c c0 z
      have := p9 c c0 z
      rw [e1, e2, e3, e4, e5, e6, q4 _ this.1.1 this.1.2]
      omega
    · exact nc c (by omega) c1
section SIM
variable {B : Int → Int} {L M n : Int} {K A V E : Int → Int}
def lcF (a b : Int) : Bool := tkF a b || (a == 24 && decide (3 ≤ b) && decide (b ≤ 5)) || (a == 25 && decide (0 ≤ b) && decide (b ≤ 3)) || (decide (26 ≤ a) && decide (a ≤ 33) && decide (0 ≤ b))
def lmF (a b : Int) : Bool := smF a b || (a == 195 && decide (0 ≤ b)) || (a == 198 && decide (20 ≤ b))
theorem lcF_lay1 : refT.all (fun q => !(lcF q.1 q.2.1)) = true := by decide +kernel
theorem lcF_lay2 : lenT.all (fun q => !(lcF q.1 (-1))) = true := by decide +kernel
theorem lmF_lay1 : refT.all (fun q => !(lmF q.1 q.2.1)) = true := by decide +kernel
theorem lmF_lay2 : lenT.all (fun q => !(lmF q.1 (-1))) = true := by decide +kernel
theorem sc_lc {a b : Int} (z : scF a b = true) : lcF a b = true := by unfold scF tkF at z; unfold lcF tkF; simp at z ⊢; omega
theorem tk_lc {a b : Int} (z : tkF a b = true) : lcF a b = true := sc_lc (tk_sc z)
theorem sm_lm {a b : Int} (z : smF a b = true) : lmF a b = true := by unfold lmF; rw [z]; rfl
theorem tx_lm {a b : Int} (z : txF a b = true) : lmF a b = true := sm_lm (tx_sm z)
/-- how a line ends, both ways -/
def LO (B : Int → Int) (L M n : Int) (K A V E : Int → Int) (j : Int) (c g : hH) (b b' : Int) (c' g' : hH) : Prop := Fr lcF c c' ∧ Fr lmF g g' ∧ ((b = 0 ∧ b' = 0 ∧ ∃ k a, FRc k a c' ∧ FRm k a g' ∧ 1 ≤ k) ∨ (b = 1 ∧ ∃ j', SC n K A V j' c' ∧ j + 1 ≤ j' ∧ c' 1 8 = c 1 8 ∧ ((b' = 1 ∧ SM B L M n K A V E j' g' ∧ DI c' g') ∨ (b' = 0 ∧ FRm 1 (A j') g' ∧ K j' ≠ 59))))
/-- the draft's counters and rows are written -/
theorem SC.up25 {j a b v : Int} {c : hH} (h : SC n K A V j c) (hb : (a = 25 ∧ (b = 0 ∨ b = 1 ∨ b = 2 ∨ b = 3)) ∨ ((26 ≤ a ∧ a ≤ 33) ∧ 0 ≤ b)) : SC n K A V j (hup c a b v) := by
  have fr : Fr lcF c (hup c a b v) := Fr.up (by unfold lcF; simp; omega)
  exact h.per (fr.lay h.1 lcF_lay1 lcF_lay2) (by rw [hup_off (by omega)]) (fun x _ _ => by rw [hup_off (by omega)])
theorem SM.up195 {j b v : Int} {g : hH} (h : SM B L M n K A V E j g) (hb : 0 ≤ b) : SM B L M n K A V E j (hup g 195 b v) := by
  have fr : Fr lmF g (hup g 195 b v) := Fr.up (by unfold lmF; simp; omega)
  exact h.per (fr.lay h.1.1 lmF_lay1 lmF_lay2) (by rw [hup_off (by decide)]) (by rw [hup_off (by decide)]) (fun x _ => by rw [hup_off (by decide)])
theorem SM.up198 {j b v : Int} {g : hH} (h : SM B L M n K A V E j g) (hb : 20 ≤ b) : SM B L M n K A V E j (hup g 198 b v) := by
  have fr : Fr lmF g (hup g 198 b v) := Fr.up (by unfold lmF; simp; omega)
  exact h.per (fr.lay h.1.1 lmF_lay1 lmF_lay2) (by rw [hup_off (by decide)]) (by rw [hup_off (by decide)]) (fun x _ => by rw [hup_off (by decide)])
theorem schAt_25 {h : hH} (hL : Lay h) : SchemaAt h 25 := ⟨ly_25_4 hL, ly_25_5 hL, ly_25_6 hL, ly_25_7 hL, ly_25_8 hL, ly_25_9 hL, ly_25_10 hL, ly_25_11 hL, ll_26 hL, ll_27 hL, ll_28 hL, ll_29 hL, ll_30 hL, ll_31 hL, ll_32 hL, ll_33 hL⟩
theorem readKey2 {c g : hH} {j : Int} (hC : Chain B L M n K A V E) (hc : SC n K A V j c) (hg : SM B L M n K A V E j g) (hD : DI c g) (hk : K j = 129) (h6 : g 195 1 < 6) : ∃ b b' c' g', fX5_readKey c 24 = some (b, c') ∧ fX12_readKey g 192 = some (b', g') ∧ LO B L M n K A V E j c g b b' c' g' := by
  have hs := hD.2.2.1
  have n1 := nx_s hC hc.2.2.2.2 (by omega) (by omega)
  obtain ⟨c1, k1, k2, k3, k4, -⟩ := stepC hC hc
  obtain ⟨g1, m1, m2, m3⟩ := nextM hC hg
  have fc1 : Fr scF c c1 := k3.mono (fun a b z => tk_sc z)
  have fg1 : Fr smF g g1 := m3.mono (fun a b z => tx_sm (nx_tx z))
  have e195 : g1 195 = g 195 := sm_row fg1 (by decide)
  obtain ⟨b, b1, c', g2, p1, p2, p3, p4, p5⟩ := takeCols2 hC k2 m2 (hD.sc fc1 fg1)
  unfold fX5_readKey fX12_readKey
  rw [row195 hg.1.1 (by decide) (by decide), m1, ly_24_0 hc.1, k1]
  simp only [Option.bind_some]
  rw [p1, p2]
  simp only [Option.bind_some]
  have fc : Fr lcF c c' := (fc1.tr p3).mono (fun a b z => sc_lc z)
  have fg2 : Fr lmF g g2 := (fg1.tr p4).mono (fun a b z => sm_lm z)
  rcases p5 with ⟨rfl, rfl, f⟩ | ⟨rfl, ht, b2, g3, q1, q2, q3⟩
  · rw [if_pos rfl, if_pos rfl]
    exact ⟨0, 0, c', g2, rfl, rfl, fc, fg2, Or.inl ⟨rfl, rfl, f⟩⟩
  · rw [if_neg (show ¬ (1 : Int) = 0 by decide), q1]
    simp only [Option.bind_some]
    have fg3 : Fr lmF g g3 := fg2.tr (q2.mono (fun a b z => sm_lm z))
    rcases q3 with ⟨rfl, rfl, f⟩ | ⟨rfl, j', ⟨x3, x4, x5⟩, S, jj, e8, q4⟩
    · rw [if_pos rfl, if_pos rfl]
      exact ⟨0, 0, c', g3, rfl, rfl, fc, fg3, Or.inl ⟨rfl, rfl, f⟩⟩
    · rw [if_neg (show ¬ (1 : Int) = 0 by decide), ly_24_1 S.1]
      rw [e195] at ht x4 x5
      have r25 : c' 25 = c 25 := sc_row (fc1.tr p3) (by decide) (by decide)
      have r31 : c' 31 = c 31 := sc_row (fc1.tr p3) (by decide) (by decide)
      have hk1 := hs.2.1
      have ek : c' 25 1 = g 195 1 := by rw [r25]; exact hD.2.1.1.2.1
      generalize hkk : g 195 1 = kk at *
      generalize hT : c' 24 3 = T at *
      generalize hA1 : c' 24 4 = a1 at *
      generalize hA2 : c' 24 5 = a2 at *
      unfold fX4_addKey
      have l6 : ∀ x : hH, Lay x → x 31 (-1) = 18 ∧ x 25 9 = 31 := fun x hx => ⟨ll_31 hx, ly_25_9 hx⟩
      rw [ek, w32_id (x := kk * 3) (by omega) (by omega), w32_id (x := kk * 3 + 0) (by omega) (by omega), w32_id (x := kk * 3 + 1) (by omega) (by omega), w32_id (x := kk * 3 + 2) (by omega) (by omega), (l6 _ S.1).2, put_in (by omega) (by rw [(l6 _ S.1).1]; omega)]
      simp only [Option.bind_some]
      have S1 := S.up25 (a := 31) (b := kk * 3 + 0) (v := T) (Or.inr (by omega))
      rw [(l6 _ S1.1).2, put_in (by omega) (by rw [(l6 _ S1.1).1]; omega)]
      simp only [Option.bind_some]
      have S2 := S1.up25 (a := 31) (b := kk * 3 + 1) (v := a1) (Or.inr (by omega))
      rw [(l6 _ S2.1).2, put_in (by omega) (by rw [(l6 _ S2.1).1]; omega)]
      simp only [Option.bind_some, pput]
      have S3 := S2.up25 (a := 31) (b := kk * 3 + 2) (v := a2) (Or.inr (by omega))
      rw [hup_off (a := 25) (by decide), hup_off (a := 25) (by decide), hup_off (a := 25) (by decide), ek, w32_id (x := kk + 1) (by omega) (by omega)]
      have S4 := S3.up25 (a := 25) (b := 1) (v := kk + 1) (Or.inl (by omega))
      generalize hz : hup (hup (hup (hup c' 31 (kk * 3 + 0) T) 31 (kk * 3 + 1) a1) 31 (kk * 3 + 2) a2) 25 1 (kk + 1) = z at S4 ⊢
      have fz : Fr lcF c z := fc.tr (by rw [← hz]; exact (((Fr.up (by unfold lcF; simp; omega)).tr (Fr.up (by unfold lcF; simp; omega))).tr (Fr.up (by unfold lcF; simp; omega))).tr (Fr.up (by decide)))
      have z18 : z 1 8 = c 1 8 := by rw [← hz, hup_off (by decide), hup_off (by decide), hup_off (by decide), hup_off (by decide), e8]; exact k4
      rcases q4 with ⟨rfl, y1, y2, S'⟩ | ⟨rfl, f, kl, kn⟩
      · rw [if_neg (show ¬ (1 : Int) = 0 by decide)]
        have e3 : g3 195 = g 195 := by rw [sm_row q2 (by decide), sm_row p4 (by decide)]; exact e195
        have g2T : g2 192 19 = T := x3.symm
        rw [w32_id (x := 40 + kk) (by omega) (by omega), w32_id (x := 46 + kk) (by omega) (by omega), w32_id (x := 52 + kk) (by omega) (by omega), put195 S'.1.1 (by omega) (by omega), g2T]
        simp only [Option.bind_some]
        have U1 := S'.up195 (b := 40 + kk) (v := T) (by omega)
        rw [put195 U1.1.1 (by omega) (by omega), hup_off (a := 192) (by decide), y1]
        simp only [Option.bind_some]
        have U2 := U1.up195 (b := 46 + kk) (v := a1) (by omega)
        rw [put195 U2.1.1 (by omega) (by omega), hup_off (a := 192) (by decide), hup_off (a := 192) (by decide), y2]
        simp only [Option.bind_some]
        have U3 := U2.up195 (b := 52 + kk) (v := a2) (by omega)
        rw [row195 U3.1.1 (by decide) (by decide)]
        simp only [Option.bind_some]
        have v1 : hup (hup (hup g3 195 (40 + kk) T) 195 (46 + kk) a1) 195 (52 + kk) a2 195 1 = kk := by rw [hup_ne (by omega), hup_ne (by omega), hup_ne (by omega), e3]; exact hkk
        rw [v1, w32_id (x := kk + 1) (by omega) (by omega), put195 U3.1.1 (by decide) (by decide)]
        simp only [Option.bind_some]
        have U4 := U3.up195 (b := 1) (v := kk + 1) (by decide)
        generalize hw : hup (hup (hup (hup g3 195 (40 + kk) T) 195 (46 + kk) a1) 195 (52 + kk) a2) 195 1 (kk + 1) = w at U4 ⊢
        have fw : Fr lmF g w := fg3.tr (by rw [← hw]; exact (((Fr.up (by unfold lmF; simp; omega)).tr (Fr.up (by unfold lmF; simp; omega))).tr (Fr.up (by unfold lmF; simp; omega))).tr (Fr.up (by decide)))
        refine ⟨1, 1, z, w, rfl, rfl, fz, fw, Or.inr ⟨rfl, j', S4, by omega, z18, Or.inl ⟨rfl, U4, ?_⟩⟩⟩
        -- the draft
        have w195 : ∀ x, w 195 x = if x = 1 then kk + 1 else if x = 52 + kk then a2 else if x = 46 + kk then a1 else if x = 40 + kk then T else g 195 x := fun x => by
          rw [← hw, hup_row, hup_row, hup_row, hup_row, e3]
          rfl
        have z31 : ∀ x, z 31 x = if x = kk * 3 + 2 then a2 else if x = kk * 3 + 1 then a1 else if x = kk * 3 + 0 then T else c 31 x := fun x => by
          rw [← hz, hup_off (by decide), hup_row, hup_row, hup_row, r31]
          rfl
        have z25 : ∀ x, x ≠ 1 → z 25 x = c 25 x := fun x hx => by rw [← hz, hup_ne (fun y => hx y.2), hup_off (by decide), hup_off (by decide), hup_off (by decide), r25]
        have z25b : z 25 1 = kk + 1 := by rw [← hz, hup_at]
        have zr : ∀ a, (26 ≤ a ∧ a < 34) → a ≠ 31 → z a = c a := fun a ha hn => by rw [← hz, hup_off (by omega), hup_off hn, hup_off hn, hup_off hn]; exact sc_row (fc1.tr p3) (by omega) (by omega)
        have w198 : w 198 = g 198 := by rw [← hw, hup_off (by decide), hup_off (by decide), hup_off (by decide), hup_off (by decide), sm_row q2 (by decide), sm_row p4 (by decide), sm_row fg1 (by decide)]
        have qo : ∀ x, x ≠ 1 → x ≠ 40 + kk → x ≠ 46 + kk → x ≠ 52 + kk → w 195 x = g 195 x := fun x a b d e => by rw [w195, if_neg a, if_neg e, if_neg d, if_neg b]
        obtain ⟨dA, ⟨⟨r0, r1, r2, r3⟩, rw', rd, rn, rk, rf, rc⟩, -, ⟨nm1, nm2⟩, -⟩ := hD
        have hs0 := hs.1
        refine ⟨schAt_25 S4.1, ⟨⟨?_, ?_, ?_, ?_⟩, fun t t0 t1 => ?_, fun i i0 i1 => ?_, fun i i0 i1 => ?_, fun k k0 k1 => ?_, fun f f0 f1 => ?_, fun x x0 x1 => ?_⟩, ?_, ⟨fun t t0 t1 => ?_, fun t x t0 t1 x0 x1 => ?_⟩, Or.inr rfl⟩
        · rw [z25 0 (by decide), qo 0 (by decide) (by omega) (by omega) (by omega)]; exact r0
        · rw [z25b, w195, if_pos rfl]
        · rw [z25 2 (by decide), qo 2 (by decide) (by omega) (by omega) (by omega)]; exact r2
        · rw [z25 3 (by decide), qo 3 (by decide) (by omega) (by omega) (by omega)]; exact r3
        · rw [qo 0 (by decide) (by omega) (by omega) (by omega)] at t1
          rw [zr _ (by decide) (by decide), qo (4 + t) (by omega) (by omega) (by omega) (by omega)]; exact rw' t t0 t1
        · rw [zr _ (by decide) (by decide), qo (8 + i) (by omega) (by omega) (by omega) (by omega)]; exact rd i i0 i1
        · rw [zr _ (by decide) (by decide), qo (24 + i) (by omega) (by omega) (by omega) (by omega)]; exact rn i i0 i1
        · rw [w195, if_pos rfl] at k1
          rw [show (25 : Int) + 6 = 31 from rfl, z31, z31, z31]
          by_cases e : k = kk
          · subst e
            rw [if_neg (by omega), if_neg (by omega), if_pos (by omega), if_neg (by omega), if_pos (by omega), if_pos (by omega), w195, w195, w195, if_neg (by omega), if_neg (by omega), if_neg (by omega), if_pos rfl, if_neg (by omega), if_neg (by omega), if_pos rfl, if_neg (by omega), if_pos rfl]
            exact ⟨rfl, rfl, rfl⟩
          · rw [if_neg (by omega), if_neg (by omega), if_neg (by omega), if_neg (by omega), if_neg (by omega), if_neg (by omega), if_neg (by omega), if_neg (by omega), if_neg (by omega), qo (40 + k) (by omega) (by omega) (by omega) (by omega), qo (46 + k) (by omega) (by omega) (by omega) (by omega), qo (52 + k) (by omega) (by omega) (by omega) (by omega)]
            exact rk k k0 (by rw [hkk]; omega)
        · have h2 := hs.2.2.1
          rw [qo 2 (by decide) (by omega) (by omega) (by omega)] at f1
          rw [zr _ (by decide) (by decide), qo (58 + f) (by omega) (by omega) (by omega) (by omega), qo (76 + f) (by omega) (by omega) (by omega) (by omega), qo (82 + f) (by omega) (by omega) (by omega) (by omega), qo (88 + f) (by omega) (by omega) (by omega) (by omega), qo (94 + f) (by omega) (by omega) (by omega) (by omega), qo (100 + f) (by omega) (by omega) (by omega) (by omega), qo (106 + f) (by omega) (by omega) (by omega) (by omega), qo (64 + f) (by omega) (by omega) (by omega) (by omega), qo (70 + f) (by omega) (by omega) (by omega) (by omega)]
          exact rf f f0 f1
        · have h3 := hs.2.2.2.1
          rw [qo 3 (by decide) (by omega) (by omega) (by omega)] at x1
          rw [zr _ (by decide) (by decide), qo (112 + x) (by omega) (by omega) (by omega) (by omega), qo (118 + x) (by omega) (by omega) (by omega) (by omega), qo (124 + x) (by omega) (by omega) (by omega) (by omega), qo (136 + x) (by omega) (by omega) (by omega) (by omega), qo (130 + x) (by omega) (by omega) (by omega) (by omega), qo (142 + x) (by omega) (by omega) (by omega) (by omega)]
          exact rc x x0 x1
        · have w0 := qo 0 (by decide) (by omega) (by omega) (by omega)
          refine hs.ext (by rw [w0]; exact ⟨Int.le_refl _, hs0.2⟩) (by rw [w195, if_pos rfl]; omega) (by rw [qo 2 (by decide) (by omega) (by omega) (by omega)]; exact ⟨Int.le_refl _, hs.2.2.1.2⟩) (by rw [qo 3 (by decide) (by omega) (by omega) (by omega)]; exact ⟨Int.le_refl _, hs.2.2.2.1.2⟩) (fun t t0 t1 => qo _ (by omega) (by omega) (by omega) (by omega)) (fun t t0 t1 => by rw [w0] at t1; omega) (fun i i0 i1 => by rw [qo (8 + i) (by omega) (by omega) (by omega) (by omega)]; exact hs.2.2.2.2.2.1 i i0 i1) (fun i i0 i1 => by rw [qo (24 + i) (by omega) (by omega) (by omega) (by omega)]; exact hs.2.2.2.2.2.2.1 i i0 i1) (fun k k0 k1 => ⟨qo _ (by omega) (by omega) (by omega) (by omega), qo _ (by omega) (by omega) (by omega) (by omega), qo _ (by omega) (by omega) (by omega) (by omega)⟩) (fun k k0 k1 => ?_) (fun f f0 f1 => ⟨qo _ (by omega) (by omega) (by omega) (by omega), qo _ (by omega) (by omega) (by omega) (by omega), qo _ (by omega) (by omega) (by omega) (by omega), qo _ (by omega) (by omega) (by omega) (by omega), qo _ (by omega) (by omega) (by omega) (by omega), qo _ (by omega) (by omega) (by omega) (by omega), qo _ (by omega) (by omega) (by omega) (by omega), qo _ (by omega) (by omega) (by omega) (by omega), qo _ (by omega) (by omega) (by omega) (by omega)⟩) (fun f f0 f1 => by rw [qo 2 (by decide) (by omega) (by omega) (by omega)] at f1; omega) (fun x x0 x1 => ⟨qo _ (by omega) (by omega) (by omega) (by omega), qo _ (by omega) (by omega) (by omega) (by omega), qo _ (by omega) (by omega) (by omega) (by omega), qo _ (by omega) (by omega) (by omega) (by omega), qo _ (by omega) (by omega) (by omega) (by omega), qo _ (by omega) (by omega) (by omega) (by omega)⟩) (fun x x0 x1 => by rw [qo 3 (by decide) (by omega) (by omega) (by omega)] at x1; omega)
          rw [w195, if_pos rfl] at k1
          have : k = kk := by omega
          subst this
          have e40 : w 195 (40 + k) = T := by rw [w195, if_neg (by omega), if_neg (by omega), if_neg (by omega), if_pos rfl]
          have e46 : w 195 (46 + k) = a1 := by rw [w195, if_neg (by omega), if_neg (by omega), if_pos rfl]
          have e52 : w 195 (52 + k) = a2 := by rw [w195, if_neg (by omega), if_pos rfl]
          rw [e40, e46, e52, w0, qo (4 + T) (by omega) (by omega) (by omega) (by omega), ← g2T]
          exact ⟨ht, x4, x5⟩
        · rw [qo 0 (by decide) (by omega) (by omega) (by omega)] at t1
          rw [zr _ (by decide) (by decide), w198]; exact nm1 t t0 t1
        · rw [qo 0 (by decide) (by omega) (by omega) (by omega)] at t1
          rw [qo (4 + t) (by omega) (by omega) (by omega) (by omega)] at x1
          rw [zr _ (by decide) (by decide), w198]; exact nm2 t x t0 t1 x0 x1
      · rw [if_pos rfl]
        exact ⟨1, 0, z, g3, rfl, rfl, fz, fg3, Or.inr ⟨rfl, j', S4, by omega, z18, Or.inr ⟨rfl, f, by omega⟩⟩⟩
end SIM
