/-! DRAWS: one, all; the call drawn -/
theorem runLine_j {c : hH} {i : Int} (hL : Lay c) (i0 : 0 ≤ i) (i1 : i < 40) (hk : stw (c 38 (19 * i))) : fX11_runLine c 0 i = jdgC c i := by
  have hp : fX2_part c 37 i 0 = some (c 38 (19 * i)) := by rw [part_ok hL i0 i1 (by decide) (by decide), Int.add_zero]
  unfold fX11_runLine jdgC
  rw [ly_0_6 hL, hp]
  simp only [Option.bind_some]
  rw [if_neg (by omega), if_neg (by omega), if_neg (by omega)]
noncomputable def dstC (c : hH) : Option (Int × hH) := (fX11_drawLine c 0).bind fun h53 => (fX11_runLine h53 0 0).bind fun q58 => if q58.1 = 22 then (fX2_setPart q58.2 (q58.2 0 6) 0 0 148).bind fun h79 => fX11_runLine h79 0 0 else some q58
def dsC (a b : Int) : Bool := dlC a b || rlC a b
def dsM (a b : Int) : Bool := dlM a b || rlM a b
theorem dl_ds {c c' : hH} (h : Fr dlC c c') : Fr dsC c c' := h.mono (fun a b z => by unfold dsC; rw [z]; rfl)
theorem rl_ds {c c' : hH} (h : Fr rlC c c') : Fr dsC c c' := h.mono (fun a b z => by unfold dsC; rw [z]; simp)
theorem dl_dm {c c' : hH} (h : Fr dlM c c') : Fr dsM c c' := h.mono (fun a b z => by unfold dsM; rw [z]; rfl)
theorem rl_dm {c c' : hH} (h : Fr rlM c c') : Fr dsM c c' := h.mono (fun a b z => by unfold dsM; rw [z]; simp)
theorem rl51 {g g' : hH} (h : Fr rlM g g') : g' 192 51 = g 192 51 := h 192 51 (by decide)
theorem rl18 {c c' : hH} (h : Fr rlC c c') : c' 0 18 = c 0 18 := by rw [rlC_row h (by omega)]
theorem drawStep2 {c g : hH} (hR : R2 c g) (hx : c 0 18 = g 192 51) (hS : 1 ≤ g 194 0) : ∃ w c' g', dstC c = some (w, c') ∧ fX12_drawDeed g 192 = some (if w = 0 then 1 else 0, g') ∧ R2 c' g' ∧ c' 0 18 = g' 192 51 ∧ Fr dsC c c' ∧ Fr dsM g g' := by
  obtain ⟨c1, t, g2, s1, L1, F1, k0, d1, d2, G2, H2, r194, s2⟩ := drawLine2 hR rfl hx.symm hS
  generalize c 0 18 = x at d1 d2 k0 s2
  have Lg1 : Lay (hup g 192 51 (lcg x)) := hR.2.1.upF (by decide)
  have hdd : fX12_drawDeed g 192 = if drw x 6 < 5 then (fX12_drawsLine g2 192 (drw x 6) t).bind fun h26 => (fX12_judges h26 192 0).bind fun q31 => if q31.1 = 0 then some (1, q31.2) else some (0, q31.2) else if g 194 149 = 0 then (fX12_begins g2 192).bind fun h55 => some (1, h55) else (fX12_whyCommit g2 192).bind fun q62 => if q62.1 = 0 then (fX12_commits q62.2 192).bind fun h69 => some (1, h69) else (fX12_backs q62.2 192).bind fun h76 => some (1, h76) := by
    unfold fX12_drawDeed
    rw [d1]
    simp only [Option.bind_some]
    rw [sgk Lg1 (by decide) (by decide), hup_off (by decide)]
    simp only [Option.bind_some]
    rw [d2]
    simp only [Option.bind_some]
    rw [sgk G2 (by decide) (by decide), r194]
    simp only [Option.bind_some]
  have ec : ∀ a, 4 ≤ a → a < 22 → c1 a = c a := fun a a0 a1 => dlC_row F1 (by omega) (by omega)
  have hcd : dstC c = (fX11_runLine c1 0 0).bind fun q58 => if q58.1 = 22 then (fX2_setPart q58.2 (q58.2 0 6) 0 0 148).bind fun h79 => fX11_runLine h79 0 0 else some q58 := by
    unfold dstC
    rw [s1]
    rfl
  rcases s2 with ⟨q5, hd⟩ | ⟨q5, g3, s3, G3, H3, hd, lo, li⟩
  · rw [if_neg q5] at hdd
    have kk : dknd (drw x 6) (g 194 149) = if g 194 149 = 0 then 146 else 147 := by
      unfold dknd
      rw [if_neg (by omega), if_neg (by omega), if_neg (by omega)]
    rw [kk] at k0
    have R1 : R2 c1 g2 := hR.of L1 G2 ec r194
    have hp : fX2_part c1 37 0 0 = some (c1 38 0) := part_ok L1 (by decide) (by decide) (by decide) (by decide)
    have on01 := hR.2.2.2.2.2.2.1
    have eon : c1 13 2 = g 194 149 := by rw [ec 13 (by decide) (by decide)]; exact hR.2.2.2.2.1.2.2.1
    rcases on01 with z | z
    · rw [if_pos z] at hdd k0
      obtain ⟨c', g', b1, b2, b3, b4, b5⟩ := start2 R1 (by rw [r194]; exact z)
      have hr : fX11_runLine c1 0 0 = some (0, c') := by
        unfold fX11_runLine
        rw [ly_0_6 L1, hp, k0]
        simp only [Option.bind_some]
        rw [if_pos trivial, ly_0_2 L1, b1]
        rfl
      rw [hr] at hcd
      simp only [Option.bind_some] at hcd
      rw [if_neg (by decide)] at hcd
      exact ⟨0, c', g', hcd, by rw [hdd, b2, if_pos rfl]; rfl, b3, by rw [rl18 b4, rl51 b5]; exact hd, (dl_ds F1).tr (rl_ds b4), (dl_dm H2).tr (rl_dm b5)⟩
    · rw [if_neg (show ¬ g 194 149 = 0 by omega)] at hdd k0
      obtain ⟨m, c2, g3, b1, b2, b3, b4, b5, b6, b7, b8, -⟩ := scanB R1
      have hw : fX12_whyCommit g2 192 = if 0 < m then some (2, g3) else some (0, g3) := by
        unfold fX12_whyCommit
        rw [sgk G2 (by decide) (by decide), r194, z]
        simp only [Option.bind_some]
        rw [if_neg (by decide), b2]
        simp only [Option.bind_some]
        rw [b3]
      have hr : fX11_runLine c1 0 0 = if 0 < m then some (22, c2) else some (0, hup c2 13 2 0) := by
        unfold fX11_runLine
        rw [ly_0_6 L1, hp, k0]
        simp only [Option.bind_some]
        rw [if_neg (show ¬ (147 : Int) = 146 by decide), if_pos trivial, ly_0_2 L1, eon, z, if_neg (by decide), ly_0_8 L1, ly_52_3 L1, ly_0_1 L1, ly_13_0 L1, b1]
        simp only [Option.bind_some]
        split
        · rfl
        · simp only [pput, Option.bind_some]
          rw [ly_0_2 b5.1]
      rw [hw] at hdd
      rw [hr] at hcd
      by_cases mp : 0 < m
      · rw [if_pos mp] at hdd hcd
        simp only [Option.bind_some] at hdd hcd
        rw [if_neg (by decide)] at hdd
        rw [if_pos trivial, ly_0_6 b5.1, setPart_ok b5.1 (by decide) (by decide) (by decide) (by decide)] at hcd
        simp only [Option.bind_some] at hcd
        rw [show (19 * 0 + 0 : Int) = 0 by decide] at hcd
        have L3 : Lay (hup c2 38 0 148) := b5.1.upA (by decide) (by decide)
        have R3 : R2 (hup c2 38 0 148) g3 := b5.c L3 (fun a a0 a1 => hup_off (by omega))
        obtain ⟨c', g', e1, e2, e3, e4, e5, -⟩ := back2 R3 (by rw [b8, r194]; exact z)
        have hr2 : fX11_runLine (hup c2 38 0 148) 0 0 = some (0, c') := by
          unfold fX11_runLine
          rw [ly_0_6 L3, part_ok L3 (by decide) (by decide) (by decide) (by decide), show (19 * 0 + 0 : Int) = 0 by decide, hup_at]
          simp only [Option.bind_some]
          rw [if_neg (show ¬ (148 : Int) = 146 by decide), if_neg (show ¬ (148 : Int) = 147 by decide), if_pos trivial, ly_0_2 L3, e1]
          rfl
        refine ⟨0, c', g', hcd.trans hr2, by rw [hdd, e2, if_pos rfl]; rfl, e3, ?_, (((dl_ds F1).tr (rl_ds b6)).tr (Fr.up (by decide))).tr (rl_ds e4), ((dl_dm H2).tr (rl_dm b7)).tr (rl_dm e5)⟩
        rw [rl18 e4, hup_off (by decide), rl18 b6, rl51 e5, rl51 b7]
        exact hd
      · rw [if_neg mp] at hdd hcd
        simp only [Option.bind_some] at hdd hcd
        rw [if_pos trivial] at hdd
        rw [if_neg (by decide)] at hcd
        obtain ⟨g', e1, e2, e3, e4⟩ := commit2 b5
        refine ⟨0, _, g', hcd, by rw [hdd, e2, if_pos rfl]; rfl, e1, ?_, ((dl_ds F1).tr (rl_ds b6)).tr (rl_ds e3), ((dl_dm H2).tr (rl_dm b7)).tr (rl_dm e4)⟩
        rw [rl18 e3, rl18 b6, rl51 e4, rl51 b7]
        exact hd
  · rw [if_pos q5, s3] at hdd
    simp only [Option.bind_some] at hdd
    have r3 : g3 194 = g 194 := dlM_row H3 (by decide) (by decide)
    have R1 : R2 c1 g3 := hR.of L1 G3 ec r3
    have kk : stw (c1 38 (19 * 0)) := by
      rw [show (19 * 0 : Int) = 0 from rfl, k0]
      unfold dknd
      by_cases a1 : drw x 6 < 3
      · rw [if_pos a1]; exact Or.inl rfl
      · rw [if_neg a1]
        by_cases a2 : drw x 6 = 3
        · rw [if_pos a2]; exact Or.inr (Or.inl rfl)
        · rw [if_neg a2, if_pos (by omega)]; exact Or.inr (Or.inr rfl)
    obtain ⟨w, c', g', j1, j2, j3, j4, j5, j6, j7⟩ := judge2 (i := 0) (to := 0) R1 (by decide) (by decide) (by rw [r3]; exact lo) (by rw [r3]; exact li) (fun _ _ _ => rfl)
    rw [runLine_j L1 (by decide) (by decide) kk, j1] at hcd
    rw [j2] at hdd
    simp only [Option.bind_some] at hcd hdd
    rw [if_neg (by omega)] at hcd
    refine ⟨w, c', g', hcd, by rw [hdd]; split <;> rfl, j3, by rw [rl18 j4, rl51 j5]; exact hd, (dl_ds F1).tr (rl_ds j4), (dl_dm H3).tr (rl_dm j5)⟩
theorem s46_turn {c c' x0 : hH} {n d k w : Int} (hk : k < n) (h : dstC c = some (w, c')) : fX11_drawn_s46 x0 0 n (c, d, k) = fX11_drawn_b89 c' 0 n d k w := by
  unfold fX11_drawn_s46
  dsimp only
  rw [if_pos hk]
  unfold dstC at h
  cases h1 : fX11_drawLine c 0 with
  | none => rw [h1] at h; cases h
  | some a =>
    rw [h1] at h
    simp only [Option.bind_some] at h ⊢
    cases h2 : fX11_runLine a 0 0 with
    | none => rw [h2] at h; cases h
    | some b =>
      rw [h2] at h
      simp only [Option.bind_some] at h ⊢
      by_cases z : b.1 = 22
      · rw [if_pos z] at h ⊢
        cases h3 : fX2_setPart b.2 (b.2 0 6) 0 0 148 with
        | none => rw [h3] at h; cases h
        | some e =>
          rw [h3] at h
          simp only [Option.bind_some] at h ⊢
          rw [h]
          rfl
      · rw [if_neg z] at h ⊢
        injection h with h
        rw [h]
theorem drawLoop {c0 g0 : hH} (x0 x1 : hH) {n : Int} (n40 : n ≤ 40) : ∀ (d : Nat) (k m : Int) (c g : hH), (n - k).toNat = d → 0 ≤ k → k ≤ n → 0 ≤ m → m ≤ k → R2 c g → c 0 18 = g 192 51 → 1 ≤ g 194 0 → Fr dsC c0 c → Fr dsM g0 g →
    ∃ q c' g', (∀ r, fX11_drawn_s46 x0 0 n (c', q, n) = some (.inr r) → lpO (fX11_drawn_s46 x0 0 n) (c, m, k) = some r) ∧ (∀ r, fX12_drawn_s42 x1 192 n (g', q, n) = some (.inr r) → lpO (fX12_drawn_s42 x1 192 n) (g, m, k) = some r) ∧ R2 c' g' ∧ Fr dsC c0 c' ∧ Fr dsM g0 g' ∧ 0 ≤ q ∧ q ≤ n := by
  intro d
  induction d with
  | zero =>
    intro k m c g hd k0 k1 m0 m1 hR hx hS fc fg
    have e : k = n := by omega
    subst e
    exact ⟨m, c, g, fun r hr => lpO_inr hr, fun r hr => lpO_inr hr, hR, fc, fg, m0, m1⟩
  | succ d ih =>
    intro k m c g hd k0 k1 m0 m1 hR hx hS fc fg
    obtain ⟨w, c1, g1, s1, s2, s3, s4, s5, s6⟩ := drawStep2 hR hx hS
    have kn : k < n := by omega
    have hc : fX11_drawn_s46 x0 0 n (c, m, k) = some (.inl (c1, m + (if w = 0 then 1 else 0), k + 1)) := by
      rw [s46_turn kn s1]
      unfold fX11_drawn_b89
      rw [w1 (by omega) (by omega), w1 (by omega) (by omega)]
      split
      · rfl
      · rw [Int.add_zero]
    have hm : fX12_drawn_s42 x1 192 n (g, m, k) = some (.inl (g1, m + (if w = 0 then 1 else 0), k + 1)) := by
      unfold fX12_drawn_s42 fX12_drawn_b61
      dsimp only
      rw [if_pos kn, s2]
      simp only [Option.bind_some]
      rw [w1 (by omega) (by omega)]
      by_cases z : w = 0
      · rw [if_pos z, if_neg (by decide), w1 (by omega) (by omega)]
      · rw [if_neg z, if_pos rfl, w32_id (by omega) (by omega)]
    have hS' : 1 ≤ g1 194 0 := by rw [s6 194 0 (by decide)]; exact hS
    have hb : 0 ≤ m + (if w = 0 then (1 : Int) else 0) ∧ m + (if w = 0 then (1 : Int) else 0) ≤ k + 1 := by split <;> omega
    obtain ⟨q, c', g', y1, y2, y3⟩ := ih (k + 1) (m + (if w = 0 then 1 else 0)) c1 g1 (by omega) (by omega) (by omega) hb.1 hb.2 s3 s4 hS' (fc.tr s5) (fg.tr s6)
    exact ⟨q, c', g', fun r hr => by rw [lpO_inl hc]; exact y1 r hr, fun r hr => by rw [lpO_inl hm]; exact y2 r hr, y3⟩
def drC (a b : Int) : Bool := dsC a b || undC a b || stC 65 a b
def drM (a b : Int) : Bool := dsM a b || stM a b || (a == 213 && decide (0 ≤ b)) || (a == 192 && b == 0)
theorem drC_row {h c : hH} (hf : Fr drC h c) {a : Int} (ha : 191 < a) : c a = h a := hf.row a (fun b => by unfold drC dsC dlC rlC jugC undC stC rwC; simp; omega)
theorem drM_row {g g' : hH} (hf : Fr drM g g') {a : Int} (ha : a < 192) : g' a = g a := hf.row a (fun b => by unfold drM dsM dlM rlM jmF jmC stM; simp; omega)
theorem drawn2 {h g : hH} {n x : Int} (h2 : R2 h g) (hU : U2 h g) : ∃ r c g', fX11_drawn h 0 n x = some (r, c) ∧ fX12_drawn g 192 n x = some (r, g') ∧ Fr drC h c ∧ Fr drM g g' ∧ R2 c g' ∧ U2 c g' := by
  have hL := h2.1
  have hg := h2.2.1
  have Lt : Lay (Th g) := th_lay hg
  have ft : Fr drM g (Th g) := Fr.up (by decide)
  have Rt : R2 h (Th g) := h2.g Lt (th_off (by decide))
  have Ut : U2 h (Th g) := hU.of rfl (fun _ _ _ _ _ => rfl) (th_ne (by decide)) (th_off (by decide)) (fun i _ => by rw [th_off (by decide)])
  by_cases hn : 1 ≤ n ∧ n ≤ 40
  · have hm0 : fX12_drawn g 192 n x = if g 194 0 = 0 then some (0, Th g) else (fX12_tries (Th g) 192).bind fun h29 => (pput h29 192 51 x).bind fun h34 => lpO (fX12_drawn_s42 h34 192 n) (h34, 0, 0) := by
      unfold fX12_drawn
      rw [th_p]
      simp only [Option.bind_some]
      rw [isIn_ok]
      simp only [Option.bind_some]
      rw [if_pos hn, if_neg (show ¬ (1 : Int) = 0 by decide), sgk Lt (by decide) (by decide), th_off (by decide)]
      rfl
    have hc0 : fX11_drawn h 0 n x = if g 194 0 = 0 then some (0, h) else (fX8_copyFrom h 65 13).bind fun h33 => (pput h33 0 18 x).bind fun h38 => lpO (fX11_drawn_s46 h38 0 n) (h38, 0, 0) := by
      unfold fX11_drawn
      rw [if_neg (by omega), if_neg (by omega), ly_0_1 hL, h2.S0, ly_0_9 hL, ly_0_2 hL]
    by_cases hS : g 194 0 = 0
    · rw [if_pos hS] at hm0 hc0
      exact ⟨0, h, Th g, hc0, hm0, Fr.rf, ft, Rt, Ut⟩
    · rw [if_neg hS] at hm0 hc0
      have hS1 : 1 ≤ g 194 0 := by have := h2.2.2.2.1.1; omega
      obtain ⟨e, e1, e2, e3⟩ := copyState_ok (s := 13) (d := 65) (stAt_13 hL) (stAt_65 hL) (by decide) h2.2.2.2.2.1
      have Le : Lay e := e3.lay hL (by decide +kernel) (by decide +kernel)
      have er : ∀ a, a < 65 ∨ 73 < a → e a = h a := fun a ha => e3.row a (fun b => by unfold stC rwC; simp; omega)
      obtain ⟨t, t1, t2⟩ := tries_ok Lt
      rw [e1] at hc0
      rw [t1] at hm0
      simp only [pput, Option.bind_some] at hc0 hm0
      have Lt2 : Lay t := by
        rw [t2]
        exact (show Fr (fun a b => a == 213 && decide (0 ≤ b)) (Th g) (seg (Th g) 213 0 1091 (fun i => Th g 194 (148 + i))) from seg_fr (fun b b0 => by simp; exact b0) (Int.le_refl _)).lay Lt (by decide +kernel) (by decide +kernel)
      have Le2 : Lay (hup e 0 18 x) := Le.upF (by decide)
      have Lt3 : Lay (hup t 192 51 x) := Lt2.upF (by decide)
      have tr : ∀ a, a ≠ 213 → t a = Th g a := fun a ha => by rw [t2, seg_off ha]
      have t194 : hup t 192 51 x 194 = g 194 := by rw [hup_off (by decide), tr 194 (by decide), th_off (by decide)]
      have R0 : R2 (hup e 0 18 x) (hup t 192 51 x) := h2.of Le2 Lt3 (fun a a0 a1 => by rw [hup_off (by omega), er a (by omega)]) t194
      have fe : Fr drC h (hup e 0 18 x) := (e3.mono (fun a b z => by unfold drC; rw [z]; simp)).tr (Fr.up (by decide))
      have fT : Fr drM g (hup t 192 51 x) := (ft.tr (by rw [t2]; exact seg_fr2 (fun b b0 b1 => by unfold drM; simp; omega))).tr (Fr.up (by decide))
      obtain ⟨q, c', g', y1, y2, y3, y4, y5, y6, y7⟩ := drawLoop (c0 := hup e 0 18 x) (g0 := hup t 192 51 x) (hup e 0 18 x) (hup t 192 51 x) hn.2 n.toNat 0 0 _ _ (by omega) (Int.le_refl _) (by omega) (Int.le_refl _) (Int.le_refl _) R0 (by rw [hup_at, hup_at]) (by rw [t194]; exact hS1) Fr.rf Fr.rf
      have cr : ∀ a, (21 < a ∧ a ≠ 38 ∧ (a < 52 ∨ 64 < a)) → c' a = hup e 0 18 x a := fun a ha => y4.row a (fun b => by unfold dsC dlC rlC jugC stC rwC; simp; omega)
      have c11 : c' 0 11 = h 0 11 := by rw [y4 0 11 (by decide), hup_ne (by omega), er 0 (by decide)]
      have gr : ∀ a, 206 < a → g' a = hup t 192 51 x a := fun a ha => y5.row a (fun b => by unfold dsM dlM rlM jmF jmC; simp; omega)
      have glo : ∀ i, i < 148 ∨ 1239 ≤ i → g' 194 i = g 194 i := fun i hi => by rw [y5 194 i (by unfold dsM dlM rlM jmF jmC; simp; omega), t194]
      have U3 : U2 c' g' := hU.of c11 (fun a a0 a1 _ _ => by rw [cr a (by omega), hup_off (by omega), er a (by omega)]) (by rw [y5 192 44 (by decide), hup_ne (by omega), tr 192 (by decide), th_ne (by decide)]) (by rw [gr 212 (by decide), hup_off (by decide), tr 212 (by decide), th_off (by decide)]) (fun i hi => glo i (Or.inl hi))
      have c65 : StH c' 65 (g 194) := StH.sameL (fun a a0 a1 => by rw [cr a (by omega), hup_off (by omega)]) e2
      have Fc : Fr drC h c' := fe.tr (y4.mono (fun a b z => by unfold drC; rw [z]; rfl))
      have Fg : Fr drM g g' := fT.tr (y5.mono (fun a b z => by unfold drM; rw [z]; rfl))
      by_cases qp : 0 < q
      · obtain ⟨c2, g2, z1, z2, z3, z4, z5⟩ := keepU (A := 213) y3.1 y3.2.1 U3 c65 h2.2.2.2.2.2 (ll_213 y3.2.1) ⟨by decide, by decide⟩ (fun i _ i1 => glo i (Or.inl i1)) (fun i i0 i1 => by
          rw [gr 213 (by decide), hup_off (by decide), t2, seg_in i0 (by omega), show i - 0 = i by omega, th_off (by decide)]) (by rw [glo 0 (by omega)]; exact h2.2.2.2.1.1.2) (by decide)
        refine ⟨q, c2, g2, ?_, ?_, Fc.tr (z3.mono (fun a b z => by unfold drC; rw [z]; simp)), Fg.tr (z4.mono (fun a b z => by unfold drM; rw [z]; simp)), (y3.c (z3.lay y3.1 undC_lay1 undC_lay2) (fun a a0 a1 => z3.row a (fun b => undC_out (by omega)))).g (z4.lay y3.2.1 stM_lay1 stM_lay2) (stM_row z4 (by decide) (by decide)), z5⟩
        · rw [hc0]
          refine y1 _ ?_
          unfold fX11_drawn_s46
          dsimp only
          rw [if_neg (by omega), if_pos qp, ly_0_9 y3.1, z1]
          rfl
        · rw [hm0]
          refine y2 _ ?_
          unfold fX12_drawn_s42
          dsimp only
          rw [if_neg (by omega), if_pos qp, ly_192_45 y3.2.1, z2]
          rfl
      · refine ⟨q, c', g', ?_, ?_, Fc, Fg, y3, U3⟩
        · rw [hc0]
          refine y1 _ ?_
          unfold fX11_drawn_s46
          dsimp only
          rw [if_neg (by omega), if_neg qp]
        · rw [hm0]
          refine y2 _ ?_
          unfold fX12_drawn_s42
          dsimp only
          rw [if_neg (by omega), if_neg qp]
  · refine ⟨-1, h, Th g, ?_, ?_, Fr.rf, ft, Rt, Ut⟩
    · unfold fX11_drawn
      by_cases z : n < 1
      · rw [if_pos z]
      · rw [if_neg z, if_pos (by omega)]
    · unfold fX12_drawn
      rw [th_p]
      simp only [Option.bind_some]
      rw [isIn_ok]
      simp only [Option.bind_some]
      rw [if_neg hn, if_pos rfl]
theorem drawn_ok {h : hH} (hL : Lay h) (h1 : SchI h) (h2 : StI h) (h3 : UndI h) (n x : Int) : ∃ r k e, fX11_drawn h 0 n x = some (r, k) ∧ fX12_drawn k 192 n x = some (r, e) ∧ Lay e ∧ Fr (fun a b => drC a b || drM a b) h e ∧ StI e ∧ UndI e := by
  have R0 : R2 h h := ⟨hL, hL, h1.1, h1.2, h2.1, h2.2⟩
  obtain ⟨r, k, g0, a1, -, a3, -, a5, -⟩ := drawn2 (n := n) (x := x) R0 h3
  have Lk := a5.1
  have kr : ∀ a, 191 < a → k a = h a := fun a ha => drC_row a3 ha
  have Rk : R2 h k := R0.g Lk (kr 194 (by decide))
  have Uk : U2 h k := U2.of h3 rfl (fun _ _ _ _ _ => rfl) (by rw [kr 192 (by decide)]) (kr 212 (by decide)) (fun i _ => by rw [kr 194 (by decide)])
  obtain ⟨r', k', g', b1, b2, b3, b4, b5, b6⟩ := drawn2 (g := k) (n := n) (x := x) Rk Uk
  have ee := a1.symm.trans b1
  have e1 : r = r' ∧ k = k' := by injection ee with x; injection x with x y; exact ⟨x, y⟩
  obtain ⟨rfl, rfl⟩ := e1
  have gk : ∀ a, a < 192 → g' a = k a := fun a ha => drM_row b4 ha
  obtain ⟨-, s2⟩ := b5.one gk
  exact ⟨r, k, g', b1, b2, b5.2.1, (b3.mono (fun a b z => by rw [z]; rfl)).tr (b4.mono (fun a b z => by rw [z]; simp)), s2, b6.one gk⟩
