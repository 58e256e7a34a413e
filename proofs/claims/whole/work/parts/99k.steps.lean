/-! ONE STEP OF A BOOK OR OF DRAWS, on two heaps: the class's c, the model's g -/
def R2 (c g : hH) : Prop := Lay c ∧ Lay g ∧ SchR c 4 (g 194) ∧ SOk (g 194) ∧ StH c 13 (g 194) ∧ StOk (g 194)
def rlC (a b : Int) : Bool := jugC 52 a b || a == 57 || a == 58 || stC 13 a b
def rlM (a b : Int) : Bool := jmF a b
theorem rlC_row {c c' : hH} (hf : Fr rlC c c') {a : Int} (ha : a < 13 ∨ (21 < a ∧ a < 52) ∨ 64 < a) : c' a = c a := hf.row a (fun b => by unfold rlC jugC stC rwC; simp; omega)
theorem rlM_row {g g' : hH} (hf : Fr rlM g g') {a : Int} (ha : a < 192 ∨ a = 193 ∨ (194 < a ∧ a < 200) ∨ 206 < a) : g' a = g a := hf.row a (fun b => by unfold rlM jmF jmC; simp; omega)
theorem rlM_lo {g g' : hH} (hf : Fr rlM g g') {i : Int} (hi : i < 148) : g' 194 i = g 194 i := hf 194 i (by unfold rlM jmF jmC; simp; omega)
theorem R2.ctx {c g : hH} (h : R2 c g) : Ctx4 c 14 4 (g 194) := ⟨(stAt_13 h.1).2.2.1, h.2.2.2.2.1.1, schAt4 h.1, h.2.2.1⟩
theorem R2.mk2 {c g c' g' : hH} (h : R2 c g) (Lc : Lay c') (Lg : Lay g') (ec : ∀ a, 4 ≤ a → a < 13 → c' a = c a) (eg : ∀ i, 0 ≤ i → i < 148 → g' 194 i = g 194 i) (hS : StH c' 13 (g' 194)) (hO : StOk (g' 194)) : R2 c' g' :=
  ⟨Lc, Lg, SchR.cong eg h.2.2.2.1 (SchR.rows (fun k k0 k1 => ec _ (by omega) (by omega)) h.2.2.1), h.2.2.2.1.cong eg, hS, hO⟩
theorem R2.of {c g c' g' : hH} (h : R2 c g) (Lc : Lay c') (Lg : Lay g') (ec : ∀ a, 4 ≤ a → a < 22 → c' a = c a) (eg : g' 194 = g 194) : R2 c' g' :=
  h.mk2 Lc Lg (fun a a0 a1 => ec a a0 (by omega)) (fun i _ _ => by rw [eg]) (by rw [eg]; exact StH.sameL (fun a a0 a1 => ec a (by omega) (by omega)) h.2.2.2.2.1) (by rw [eg]; exact h.2.2.2.2.2)
theorem jg_rl {c k : hH} (hf : Fr (fun a b => jugC 52 a b || a == 52 + 5 || a == 52 + 6) c k) : Fr rlC c k := hf.mono (fun a b z => by
  simp only [Bool.or_eq_true, beq_iff_eq] at z
  unfold rlC
  rcases z with (z | z) | z
  · rw [z]; simp
  · simp [z]
  · simp [z])
/-- judging, and taking over what would be -/
noncomputable def jdgC (c : hH) (i : Int) : Option (Int × hH) := (fX1_judge c (c 0 8) (c 0 6) i).bind fun q130 => if q130.1 = 0 then (fX3_copyFrom q130.2 (q130.2 (q130.2 0 2) 0) (q130.2 (q130.2 0 8) 2)).bind fun h152 => some (q130.1, h152) else some (q130.1, q130.2)
theorem judge2 {c g : hH} {i to : Int} {T : Int → Int} (hR : R2 c g) (t0 : 0 ≤ to) (t1 : to + 20 ≤ 800) (hT : LOk (g 194) T) (hl : LinC (g 194) c i T) (hg : ∀ q, 0 ≤ q → q < 20 → g 197 (to + q) = T q) : ∃ w c' g', jdgC c i = some (w, c') ∧ fX12_judges g 192 to = some (w, g') ∧ R2 c' g' ∧ Fr rlC c c' ∧ Fr rlM g g' ∧ 0 ≤ w ∧ w ≤ 6 := by
  have hc := hR.ctx
  obtain ⟨Lc, Lg, hSch, hs, hH, hO⟩ := id hR
  obtain ⟨k, k1, Lk, k3, k4⟩ := judgeC_S (v := 52) (l := i) (Or.inr rfl) Lc hc hs hO hH.2.1 hH.2.2.1 hT hl
  have hlen : ¬ noRm (g 194) T → ¬ clsh (g 194) T → (liv (newS (g 194) T)).length ≤ 40 := fun a b => k4.len a b
  obtain ⟨m, m1, Lm, m2, -, -, -, -, -, -, m194⟩ := judgesM_ok hs hO hT hlen ⟨Lg, rfl, ⟨t0, t1⟩, fun q q0 q1 => hg q q0 q1⟩
  have wb := why_b (vioN_ok (T := T) hs hO hlen).2
  have kr : ∀ a, a < 52 → k a = c a := fun a ha => k3.row a (fun b => by unfold jugC rwC; simp; omega)
  unfold jdgC
  rw [ly_0_8 Lc, ly_0_6 Lc, k1]
  simp only [Option.bind_some]
  by_cases z : whyS (g 194) T = 0
  · obtain ⟨nn, nc⟩ := why0 z
    have hh := k4.2.2.2.2.2.2.2.2 nn nc
    obtain ⟨o, o1, o2, o3, o4⟩ := takeThen (v := 52) (Or.inr rfl) Lk hs hT (StH.sameL (fun a a0 a1 => kr a (by omega)) hH) hO nn hh.1 hh.2
    have Lo : Lay o := o4.lay Lk (by decide +kernel) (by decide +kernel)
    rw [if_pos z] at m194
    rw [if_pos z, ly_0_2 Lk, ly_13_0 Lk, ly_0_8 Lk, ly_52_2 Lk, show (53 : Int) = 52 + 1 from rfl, o1]
    refine ⟨_, o, m, rfl, m1, hR.mk2 Lo Lm (fun a a0 a1 => ?_) (fun i i0 i1 => ?_) ?_ ?_, (jg_rl k3).tr (o4.mono (fun a b z => ?_)), m2, wb⟩
    · rw [o4.row a (fun b => rwC_far (by omega)), kr a (by omega)]
    · rw [m194, new_lo hO.1 nn (Or.inl i1)]
    · rw [m194]; exact o2
    · rw [m194]; exact o3
    · unfold rlC stC
      rw [show (13 : Int) + 1 = 14 from rfl, z]
      simp
  · rw [if_neg z] at m194
    rw [if_neg z]
    refine ⟨_, k, m, rfl, m1, hR.of Lk Lm (fun a a0 a1 => kr a (by omega)) m194, jg_rl k3, m2, wb⟩
theorem fr194 {g g' : hH} (e : ∀ a, a ≠ 194 → g' a = g a) (es : ∀ i, i < 148 ∨ 1239 ≤ i → g' 194 i = g 194 i) : Fr rlM g g' := fr_s e es (fun b b0 b1 => by unfold rlM jmF; simp; omega)
theorem layS {g g' : hH} (hL : Lay g) (e : ∀ a, a ≠ 194 → g' a = g a) (es : ∀ i, i < 148 ∨ 1239 ≤ i → g' 194 i = g 194 i) : Lay g' := (fr_s (C := fun a b => a == 194 && decide (148 ≤ b)) e es (fun b b0 b1 => by simp; omega)).lay hL (by decide +kernel) (by decide +kernel)
theorem stC_rl {c c' : hH} (h : Fr (stC 13) c c') : Fr rlC c c' := h.mono (fun a b z => by unfold rlC; rw [z]; simp)
theorem stC_ec {c c' : hH} (h : Fr (stC 13) c c') {a : Int} (ha : a < 13 ∨ 21 < a) : c' a = c a := h.row a (fun b => stC13_out ha)
theorem start2 {c g : hH} (hR : R2 c g) (h9 : g 194 149 = 0) : ∃ c' g', fX8_start c 13 = some (1, c') ∧ fX12_begins g 192 = some g' ∧ R2 c' g' ∧ Fr rlC c c' ∧ Fr rlM g g' := by
  obtain ⟨Lc, Lg, hSch, hs, hH, hO⟩ := id hR
  obtain ⟨k, k1, k2, k3⟩ := start_ok Lc hH h9
  obtain ⟨y, y1, y2, y3⟩ := begins_ok Lg
  have es : ∀ i, i < 148 ∨ 1239 ≤ i → y 194 i = g 194 i := fun i hi => by rw [y2, beginS_o hi]
  exact ⟨k, y, k1, y1, hR.mk2 (k3.lay Lc stC13_lay1 stC13_lay2) (layS Lg y3 es) (fun a a0 a1 => stC_ec k3 (by omega)) (fun i i0 i1 => es i (Or.inl i1)) (by rw [y2]; exact k2) (by rw [y2]; exact hO.begin hs.1.2), stC_rl k3, fr194 y3 es⟩
theorem back2 {c g : hH} (hR : R2 c g) (h9 : g 194 149 = 1) : ∃ c' g', fX8_goBack c 13 = some (1, c') ∧ fX12_backs g 192 = some g' ∧ R2 c' g' ∧ Fr rlC c c' ∧ Fr rlM g g' ∧ g' 194 149 = 0 := by
  obtain ⟨Lc, Lg, hSch, hs, hH, hO⟩ := id hR
  obtain ⟨k, k1, k2, k3⟩ := goBack_ok Lc hH h9
  obtain ⟨y, y1, y2, y3⟩ := backs_ok Lg
  have es : ∀ i, i < 148 ∨ 1239 ≤ i → y 194 i = g 194 i := fun i hi => by rw [y2, backS_o hi]
  exact ⟨k, y, k1, y1, hR.mk2 (k3.lay Lc stC13_lay1 stC13_lay2) (layS Lg y3 es) (fun a a0 a1 => stC_ec k3 (by omega)) (fun i i0 i1 => es i (Or.inl i1)) (by rw [y2]; exact k2) (by rw [y2]; exact hO.back hs.1.2 h9), stC_rl k3, fr194 y3 es, by rw [y2]; unfold backS; rw [if_pos rfl]⟩
theorem commit2 {c g : hH} (hR : R2 c g) : ∃ g', R2 (hup c 13 2 0) g' ∧ fX12_commits g 192 = some g' ∧ Fr rlC c (hup c 13 2 0) ∧ Fr rlM g g' := by
  obtain ⟨Lc, Lg, hSch, hs, hH, hO⟩ := id hR
  obtain ⟨k2, k3⟩ := commitC_ok hH
  obtain ⟨y, y1, y2, y3⟩ := commits_ok Lg
  have es : ∀ i, i < 148 ∨ 1239 ≤ i → y 194 i = g 194 i := fun i hi => by rw [y2, commitS_o hi]
  exact ⟨y, hR.mk2 (k3.lay Lc stC13_lay1 stC13_lay2) (layS Lg y3 es) (fun a a0 a1 => stC_ec k3 (by omega)) (fun i i0 i1 => es i (Or.inl i1)) (by rw [y2]; exact k2) (by rw [y2]; exact hO.commit hs.1.2), y1, stC_rl k3, fr194 y3 es⟩
/-- all violations now, on either side -/
theorem scanB {c g : hH} (hR : R2 c g) : ∃ n c' g', fX10_scan c 57 4 14 1 = some (n, c') ∧ fX12_judgesAll g 192 1 = some g' ∧ g' 192 26 = n ∧ 0 ≤ n ∧ R2 c' g' ∧ Fr rlC c c' ∧ Fr rlM g g' ∧ g' 194 = g 194 ∧ VioC c' 57 (vioL (g 194) 1) ∧ VioM g' (vioL (g 194) 1) := by
  obtain ⟨Lc, Lg, hSch, hs, hH, hO⟩ := id hR
  obtain ⟨k, k1, k2, k3⟩ := scan_ok (late := 1) (vioAt57 Lc) hR.ctx apart57 hs hO.2.2.1
  obtain ⟨x, x1, x2, x3, x4⟩ := judgesAll_ok (late := 1) Lg hs hO.2.2.2.2.2.1
  have x194 : x 194 = g 194 := x4.1 194 (by decide) (by decide) (by decide) (by decide)
  refine ⟨_, k, x, k1, x1, x3.1, by omega, hR.of (only57_lay k3 Lc) x2 (fun a a0 a1 => k3.row (by omega) (by omega)) x194, fun a b z => ?_, fun a b z => ?_, x194, k2, x3⟩
  · unfold rlC at z
    simp at z
    by_cases ea : a = 57
    · exact absurd ea z.1.1.2
    · exact k3.1 a ea (by omega) |> fun e => by rw [e]
  · unfold rlM jmF jmC at z
    simp at z
    by_cases e2 : a = 192
    · rw [e2]
      exact x4.2 b (by omega)
    · rw [x4.1 a e2 (by omega) (by omega) (by omega)]
/-- a line of the class and its twin in the model -/
def LnR (c g : hH) (i : Int) : Prop := (0 ≤ i ∧ i < 40) ∧ ((LOk (g 194) (fun q => g 197 (20 * i + q)) ∧ LinC (g 194) c i (fun q => g 197 (20 * i + q))) ∨ (g 197 (20 * i) = 3 ∧ c 38 (19 * i) = 146) ∨ (g 197 (20 * i) = 4 ∧ c 38 (19 * i) = 147) ∨ (g 197 (20 * i) = 5 ∧ c 38 (19 * i) = 148))
theorem LOk.cong {S S' T : Int → Int} (h : LOk S T) (hs : SOk S) (e : ∀ i, 0 ≤ i → i < 148 → S' i = S i) : LOk S' T := by
  have h0 := hs.1
  obtain ⟨a1, a2, a3, a4, a5, a6, a7⟩ := h
  have e4 : S' (4 + T 1) = S (4 + T 1) := e _ (by omega) (by omega)
  unfold LOk
  rw [e4, e 0 (by decide) (by decide)]
  exact ⟨a1, a2, a3, a4, a5, a6, a7⟩
theorem LinC.congS {S S' : Int → Int} {h : hH} {i : Int} {T : Int → Int} (hl : LinC S h i T) (hT : LOk S T) (hs : SOk S) (e : ∀ i, 0 ≤ i → i < 148 → S' i = S i) : LinC S' h i T := by
  have h0 := hs.1
  have e4 : S' (4 + T 1) = S (4 + T 1) := e _ (by have := hT.2.1; omega) (by have := hT.2.1; omega)
  unfold LinC at hl ⊢
  rw [e4]
  exact hl
theorem LnR.of {c g c' g' : hH} {i : Int} (h : LnR c g i) (hs : SOk (g 194)) (ec : c' 38 = c 38) (eg : g' 197 = g 197) (es : ∀ i, 0 ≤ i → i < 148 → g' 194 i = g 194 i) : LnR c' g' i := by
  unfold LnR at h ⊢
  rw [eg, ec]
  refine ⟨h.1, ?_⟩
  rcases h.2 with ⟨a, b⟩ | h
  · exact Or.inl ⟨a.cong hs es, (b.congS a hs es).of ec⟩
  · exact Or.inr h
theorem start_no {c : hH} (h : c 13 2 ≠ 0) : fX8_start c 13 = some (0, c) := by
  unfold fX8_start
  rw [if_neg h]
theorem goBack_no {c : hH} (h : c 13 2 = 0) : fX8_goBack c 13 = some (0, c) := by
  unfold fX8_goBack
  rw [if_pos h]
theorem runLine2 {c g : hH} {i : Int} (hR : R2 c g) (hl : LnR c g i) : ∃ w c' g', fX11_runLine c 0 i = some (w, c') ∧ fX12_does g 192 (20 * i) = some (w, g') ∧ R2 c' g' ∧ Fr rlC c c' ∧ Fr rlM g g' ∧ 0 ≤ w := by
  obtain ⟨⟨i0, i1⟩, hl⟩ := hl
  obtain ⟨Lc, Lg, hSch, hs, hH, hO⟩ := id hR
  have eon : c 13 2 = g 194 149 := hH.2.2.1
  have on01 := hO.2.1
  have hm : fX12_does g 192 (20 * i) = if g 197 (20 * i) < 3 then (fX12_judges g 192 (20 * i)).bind fun q14 => some (q14.1, q14.2) else if g 197 (20 * i) = 3 then fX12_does_b56 g 192 (g 197 (20 * i)) (g 194 149) else if g 197 (20 * i) = 4 then (fX12_whyCommit g 192).bind fun q40 => fX12_does_b56 q40.2 192 (g 197 (20 * i)) q40.1 else fX12_does_b56 g 192 (g 197 (20 * i)) (w32 (1 - g 194 149)) := by
    unfold fX12_does
    rw [row197 Lg (by omega) (by omega)]
    simp only [Option.bind_some]
    rw [sgk Lg (by decide) (by decide)]
    rfl
  have hc : ∀ k, c 38 (19 * i) = k → fX2_part c 37 i 0 = some k := fun k hk => by rw [part_ok Lc i0 i1 (by decide) (by decide), Int.add_zero, hk]
  rcases hl with ⟨lo, li⟩ | ⟨e, ek⟩ | ⟨e, ek⟩ | ⟨e, ek⟩
  · have t3 : g 197 (20 * i) < 3 := by
      have := lo.1
      dsimp only at this
      rw [show 20 * i + 0 = 20 * i by omega] at this
      omega
    obtain ⟨w, c', g', j1, j2, j3, j4, j5, j6, -⟩ := judge2 (to := 20 * i) hR (by omega) (by omega) lo li (fun _ _ _ => rfl)
    refine ⟨w, c', g', ?_, by rw [hm, if_pos t3, j2]; rfl, j3, j4, j5, j6⟩
    have kk := li.2.1
    unfold fX11_runLine
    rw [ly_0_6 Lc, hc _ kk]
    simp only [Option.bind_some]
    have : ∀ x : Int, (x = 141 ∨ x = 142 ∨ x = 145) → x ≠ 146 ∧ x ≠ 147 ∧ x ≠ 148 := fun x hx => by omega
    have hx := this (if (fun q => g 197 (20 * i + q)) 0 = 0 then (141 : Int) else if (fun q => g 197 (20 * i + q)) 0 = 1 then 142 else 145) (by
      split
      · exact Or.inl rfl
      · split
        · exact Or.inr (Or.inl rfl)
        · exact Or.inr (Or.inr rfl))
    rw [if_neg hx.1, if_neg hx.2.1, if_neg hx.2.2]
    unfold jdgC at j1
    rw [ly_0_6 Lc] at j1
    exact j1
  · rw [hm, e, if_neg (by decide), if_pos rfl]
    unfold fX11_runLine fX12_does_b56
    rw [ly_0_6 Lc, hc _ ek]
    simp only [Option.bind_some, if_true]
    rw [ly_0_2 Lc]
    rcases on01 with z | z
    · obtain ⟨c', g', s1, s2, s3, s4, s5⟩ := start2 hR z
      rw [s1, s2, z, if_neg (by decide)]
      exact ⟨0, c', g', rfl, rfl, s3, s4, s5, Int.le_refl _⟩
    · rw [start_no (by rw [eon, z]; decide), z, if_pos (by decide)]
      exact ⟨11, c, g, rfl, rfl, hR, Fr.rf, Fr.rf, by decide⟩
  · rw [hm, e, if_neg (by decide), if_neg (by decide), if_pos rfl]
    unfold fX11_runLine fX12_whyCommit
    rw [ly_0_6 Lc, hc _ ek]
    simp only [Option.bind_some]
    rw [if_neg (show ¬ (147 : Int) = 146 by decide), if_pos trivial, ly_0_2 Lc, eon, sgk Lg (by decide) (by decide)]
    simp only [Option.bind_some]
    rcases on01 with z | z
    · rw [z, if_pos rfl, if_pos rfl]
      simp only [Option.bind_some]
      unfold fX12_does_b56
      rw [if_pos (by decide)]
      exact ⟨21, c, g, rfl, rfl, hR, Fr.rf, Fr.rf, by decide⟩
    · rw [z, if_neg (by decide), if_neg (by decide)]
      obtain ⟨n, c1, g1, s1, s2, s3, s4, s5, s6, s7, -⟩ := scanB hR
      rw [ly_0_8 Lc, ly_52_3 Lc, ly_0_1 Lc, ly_13_0 Lc, s1, s2]
      simp only [Option.bind_some]
      rw [s3]
      by_cases y : 0 < n
      · rw [if_pos y, if_pos y]
        simp only [Option.bind_some]
        unfold fX12_does_b56
        rw [if_pos (by decide)]
        exact ⟨22, c1, g1, rfl, rfl, s5, s6, s7, by decide⟩
      · rw [if_neg y, if_neg y]
        simp only [Option.bind_some]
        unfold fX12_does_b56
        rw [if_neg (by decide), if_neg (by decide), if_pos rfl]
        obtain ⟨g2, m1, m2, m3, m4⟩ := commit2 s5
        rw [m2]
        simp only [pput, Option.bind_some]
        rw [ly_0_2 s5.1]
        exact ⟨0, _, g2, rfl, rfl, m1, s6.tr m3, s7.tr m4, Int.le_refl _⟩
  · rw [hm, e, if_neg (by decide), if_neg (by decide), if_neg (by decide)]
    unfold fX11_runLine fX12_does_b56
    rw [ly_0_6 Lc, hc _ ek]
    simp only [Option.bind_some]
    rw [if_neg (show ¬ (148 : Int) = 146 by decide), if_neg (show ¬ (148 : Int) = 147 by decide), if_pos trivial, ly_0_2 Lc]
    rcases on01 with z | z
    · rw [goBack_no (by rw [eon, z]), z, if_pos (by decide)]
      exact ⟨31, c, g, rfl, rfl, hR, Fr.rf, Fr.rf, by decide⟩
    · obtain ⟨c', g', s1, s2, s3, s4, s5, -⟩ := back2 hR z
      rw [s1, s2, z, if_neg (by decide), if_neg (by decide), if_neg (by decide)]
      exact ⟨0, c', g', rfl, rfl, s3, s4, s5, Int.le_refl _⟩
