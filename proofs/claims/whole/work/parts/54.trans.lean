/-! TRANSACTIONS -/
def beginS (S : Int → Int) : Int → Int := fun i => if i = 149 then 1 else if 744 ≤ i ∧ i < 843 then S (i - 594) else if 843 ≤ i ∧ i < 1239 then S (i - 495) else S i
def backS (S : Int → Int) : Int → Int := fun i => if i = 149 then 0 else if 150 ≤ i ∧ i < 249 then S (i + 594) else if 348 ≤ i ∧ i < 744 then S (i + 495) else if 744 ≤ i ∧ i < 1239 then 0 else S i
def commitS (S : Int → Int) : Int → Int := fun i => if i = 149 then 0 else if 744 ≤ i ∧ i < 1239 then 0 else S i
theorem aup_s {h : hH} (hL : Lay h) {k v : Int} (h0 : 0 ≤ k) (h1 : k < 1420) : aput h (h 192 6) k v = some (hup h 194 k v) := by
  rw [ly_192_6 hL]
  exact aput_in h0 (by rw [ll_194 hL]; exact h1)
theorem lay_seg194 {h : hH} (hL : Lay h) {off n : Int} {src : Int → Int} (h0 : 0 ≤ off) : Lay (seg h 194 off n src) :=
  (seg_fr (C := fun a b => a == 194 && decide (0 ≤ b)) (fun b hb => by simp; omega) h0).lay hL (by decide +kernel) (by decide +kernel)
theorem begins_ok {h : hH} (hL : Lay h) : ∃ h', fX12_begins h 192 = some h' ∧ h' 194 = beginS (h 194) ∧ ∀ a, a ≠ 194 → h' a = h a := by
  unfold fX12_begins
  rw [aup_s hL (by decide) (by decide)]
  simp only [Option.bind_some]
  generalize hg : hup h 194 149 1 = g
  have Lg : Lay g := by rw [← hg]; exact hL.upA (by decide) (by decide)
  have gs : ∀ i, g 194 i = if i = 149 then 1 else h 194 i := fun i => by
    rw [← hg]
    by_cases e : i = 149
    · rw [e, hup_at, if_pos rfl]
    · rw [hup_ne (fun z => e z.2), if_neg e]
  have ga : ∀ a, a ≠ 194 → g a = h a := fun a ha => by rw [← hg, hup_off ha]
  refine cp_loop 194 744 99 (fun i => g 194 (150 + i)) _ (by decide) (fun i h' i0 i1 hI => ?_) ?_
  · have L' : Lay h' := by rw [hI]; exact lay_seg194 Lg (by decide)
    unfold fX12_begins_s11
    simp (disch := omega) only [if_pos i1, w32_id, sgk L', aup_s L', Option.bind_some]
    rw [hI, seg_out (by omega)]
  · generalize hg2 : seg g 194 744 99 (fun i => g 194 (150 + i)) = g2
    have Lg2 : Lay g2 := by rw [← hg2]; exact lay_seg194 Lg (by decide)
    unfold fX12_begins_s11
    simp only [if_neg (show ¬ (99 : Int) < 99 by decide)]
    have key := cp_loop (f := fX12_begins_s45 g2 192) (h := g2) 194 843 396 (fun i => g2 194 (348 + i)) (fun x => x = seg g2 194 843 396 (fun i => g2 194 (348 + i))) (by decide) (fun i h' i0 i1 hI => ?_) ⟨_, ?_, rfl⟩
    · obtain ⟨r, r1, r2⟩ := key
      refine ⟨r, by rw [r1]; rfl, ?_, fun a ha => ?_⟩
      · rw [r2]
        funext i
        unfold beginS
        by_cases c : 843 ≤ i ∧ i < 1239
        · rw [seg_in (by omega) (by omega), ← hg2, seg_out (by omega), gs, if_neg (by omega), if_neg (by omega), if_neg (by omega), if_pos c]
          congr 1
          omega
        · rw [seg_out (by omega), ← hg2]
          by_cases d : 744 ≤ i ∧ i < 843
          · rw [seg_in (by omega) (by omega), gs, if_neg (by omega), if_neg (by omega), if_pos d]
            congr 1
            omega
          · rw [seg_out (by omega), gs]
            by_cases e : i = 149
            · rw [if_pos e, if_pos e]
            · rw [if_neg e, if_neg e, if_neg d, if_neg c]
      · rw [r2, seg_off ha, ← hg2, seg_off ha, ga a ha]
    · have L' : Lay h' := by rw [hI]; exact lay_seg194 Lg2 (by decide)
      unfold fX12_begins_s45
      simp (disch := omega) only [if_pos i1, w32_id, sgk L', aup_s L', Option.bind_some]
      rw [hI, seg_out (by omega)]
    · unfold fX12_begins_s45
      simp only [if_neg (show ¬ (396 : Int) < 396 by decide)]
theorem clears2_ok {h : hH} (hL : Lay h) : ∃ h', fX12_clears2 h 192 = some h' ∧ (∀ i, h' 194 i = if 744 ≤ i ∧ i < 1239 then 0 else h 194 i) ∧ ∀ a, a ≠ 194 → h' a = h a := by
  unfold fX12_clears2
  refine cp_loop 194 744 99 (fun i => 0) _ (by decide) (fun i h' i0 i1 hI => ?_) ?_
  · have L' : Lay h' := by rw [hI]; exact lay_seg194 hL (by decide)
    unfold fX12_clears2_s2
    simp (disch := omega) only [if_pos i1, w32_id, aup_s L', Option.bind_some]
  · generalize hg2 : seg h 194 744 99 (fun i => 0) = g2
    have Lg2 : Lay g2 := by rw [← hg2]; exact lay_seg194 hL (by decide)
    unfold fX12_clears2_s2
    simp only [if_neg (show ¬ (99 : Int) < 99 by decide)]
    have key := cp_loop (f := fX12_clears2_s27 g2 192) (h := g2) 194 843 396 (fun i => 0) (fun x => x = seg g2 194 843 396 (fun i => 0)) (by decide) (fun i h' i0 i1 hI => ?_) ⟨_, ?_, rfl⟩
    · obtain ⟨r, r1, r2⟩ := key
      refine ⟨r, by rw [r1]; rfl, fun i => ?_, fun a ha => ?_⟩
      · rw [r2]
        by_cases c : 843 ≤ i ∧ i < 1239
        · rw [seg_in (by omega) (by omega), if_pos (by omega)]
        · rw [seg_out (by omega), ← hg2]
          by_cases d : 744 ≤ i ∧ i < 843
          · rw [seg_in (by omega) (by omega), if_pos (by omega)]
          · rw [seg_out (by omega), if_neg (by omega)]
      · rw [r2, seg_off ha, ← hg2, seg_off ha]
    · have L' : Lay h' := by rw [hI]; exact lay_seg194 Lg2 (by decide)
      unfold fX12_clears2_s27
      simp (disch := omega) only [if_pos i1, w32_id, aup_s L', Option.bind_some]
    · unfold fX12_clears2_s27
      simp only [if_neg (show ¬ (396 : Int) < 396 by decide)]
theorem commits_ok {h : hH} (hL : Lay h) : ∃ h', fX12_commits h 192 = some h' ∧ h' 194 = commitS (h 194) ∧ ∀ a, a ≠ 194 → h' a = h a := by
  unfold fX12_commits
  rw [aup_s hL (by decide) (by decide)]
  simp only [Option.bind_some]
  obtain ⟨h', c1, c2, c3⟩ := clears2_ok (h := hup h 194 149 0) (hL.upA (by decide) (by decide))
  rw [c1]
  refine ⟨h', rfl, ?_, fun a ha => by rw [c3 a ha, hup_off ha]⟩
  funext i
  rw [c2]
  unfold commitS
  by_cases e : i = 149
  · rw [e, if_neg (by decide), hup_at, if_pos rfl]
  · rw [if_neg e, hup_ne (fun z => e z.2)]
theorem backs_ok {h : hH} (hL : Lay h) : ∃ h', fX12_backs h 192 = some h' ∧ h' 194 = backS (h 194) ∧ ∀ a, a ≠ 194 → h' a = h a := by
  unfold fX12_backs
  rw [aup_s hL (by decide) (by decide)]
  simp only [Option.bind_some]
  generalize hg : hup h 194 149 0 = g
  have Lg : Lay g := by rw [← hg]; exact hL.upA (by decide) (by decide)
  have gs : ∀ i, g 194 i = if i = 149 then 0 else h 194 i := fun i => by
    rw [← hg]
    by_cases e : i = 149
    · rw [e, hup_at, if_pos rfl]
    · rw [hup_ne (fun z => e z.2), if_neg e]
  have ga : ∀ a, a ≠ 194 → g a = h a := fun a ha => by rw [← hg, hup_off ha]
  refine cp_loop 194 150 99 (fun i => g 194 (744 + i)) _ (by decide) (fun i h' i0 i1 hI => ?_) ?_
  · have L' : Lay h' := by rw [hI]; exact lay_seg194 Lg (by decide)
    unfold fX12_backs_s11
    simp (disch := omega) only [if_pos i1, w32_id, sgk L', aup_s L', Option.bind_some]
    rw [hI, seg_out (by omega)]
  · generalize hg2 : seg g 194 150 99 (fun i => g 194 (744 + i)) = g2
    have Lg2 : Lay g2 := by rw [← hg2]; exact lay_seg194 Lg (by decide)
    unfold fX12_backs_s11
    simp only [if_neg (show ¬ (99 : Int) < 99 by decide)]
    have key := cp_loop (f := fX12_backs_s45 g2 192) (h := g2) 194 348 396 (fun i => g2 194 (843 + i)) (fun x => x 194 = backS (h 194) ∧ ∀ a, a ≠ 194 → x a = h a) (by decide) (fun i h' i0 i1 hI => ?_) ?_
    · obtain ⟨r, r1, r2, r3⟩ := key
      exact ⟨r, by rw [r1]; rfl, r2, r3⟩
    · have L' : Lay h' := by rw [hI]; exact lay_seg194 Lg2 (by decide)
      unfold fX12_backs_s45
      simp (disch := omega) only [if_pos i1, w32_id, sgk L', aup_s L', Option.bind_some]
      rw [hI, seg_out (by omega)]
    · unfold fX12_backs_s45
      simp only [if_neg (show ¬ (396 : Int) < 396 by decide)]
      obtain ⟨h', c1, c2, c3⟩ := clears2_ok (h := seg g2 194 348 396 (fun i => g2 194 (843 + i))) (lay_seg194 Lg2 (by decide))
      rw [c1]
      refine ⟨h', rfl, ?_, fun a ha => by rw [c3 a ha, seg_off ha, ← hg2, seg_off ha, ga a ha]⟩
      funext i
      rw [c2]
      unfold backS
      by_cases c : 744 ≤ i ∧ i < 1239
      · rw [if_pos c, if_neg (by omega), if_neg (by omega), if_neg (by omega), if_pos c]
      · rw [if_neg c]
        by_cases d : 348 ≤ i ∧ i < 744
        · rw [seg_in (by omega) (by omega), ← hg2, seg_out (by omega), gs, if_neg (by omega), if_neg (by omega), if_neg (by omega), if_pos d]
          congr 1
          omega
        · rw [seg_out (by omega), ← hg2]
          by_cases e : 150 ≤ i ∧ i < 249
          · rw [seg_in (by omega) (by omega), gs, if_neg (by omega), if_neg (by omega), if_pos e]
            congr 1
            omega
          · rw [seg_out (by omega), gs]
            by_cases f : i = 149
            · rw [if_pos f, if_pos f]
            · rw [if_neg f, if_neg f, if_neg e, if_neg d, if_neg c]
/-! what the sparse rows say then -/
section SPEC
variable {S : Int → Int}
theorem bg_al {q : Int} (a : 0 ≤ q) (b : q < 99) : beginS S (150 + q) = S (150 + q) := by unfold beginS; rw [if_neg (by omega), if_neg (by omega), if_neg (by omega)]
theorem bg_tb {q : Int} (a : 0 ≤ q) (b : q < 99) : beginS S (249 + q) = S (249 + q) := by unfold beginS; rw [if_neg (by omega), if_neg (by omega), if_neg (by omega)]
theorem bg_ce {q : Int} (a : 0 ≤ q) (b : q < 396) : beginS S (348 + q) = S (348 + q) := by unfold beginS; rw [if_neg (by omega), if_neg (by omega), if_neg (by omega)]
theorem bg_al2 {q : Int} (a : 0 ≤ q) (b : q < 99) : beginS S (744 + q) = S (150 + q) := by unfold beginS; rw [if_neg (by omega), if_pos (by omega)]; congr 1; omega
theorem bg_ce2 {q : Int} (a : 0 ≤ q) (b : q < 396) : beginS S (843 + q) = S (348 + q) := by unfold beginS; rw [if_neg (by omega), if_neg (by omega), if_pos (by omega)]; congr 1; omega
theorem bg_lo {i : Int} (b : i < 149) : beginS S i = S i := by unfold beginS; rw [if_neg (by omega), if_neg (by omega), if_neg (by omega)]
theorem bk_al {q : Int} (a : 0 ≤ q) (b : q < 99) : backS S (150 + q) = S (744 + q) := by unfold backS; rw [if_neg (by omega), if_pos (by omega)]; congr 1; omega
theorem bk_tb {q : Int} (a : 0 ≤ q) (b : q < 99) : backS S (249 + q) = S (249 + q) := by unfold backS; rw [if_neg (by omega), if_neg (by omega), if_neg (by omega), if_neg (by omega)]
theorem bk_ce {q : Int} (a : 0 ≤ q) (b : q < 396) : backS S (348 + q) = S (843 + q) := by unfold backS; rw [if_neg (by omega), if_neg (by omega), if_pos (by omega)]; congr 1; omega
theorem bk_lo {i : Int} (b : i < 149) : backS S i = S i := by unfold backS; rw [if_neg (by omega), if_neg (by omega), if_neg (by omega), if_neg (by omega)]
theorem cm_lo {i : Int} (b : i < 744) (c : i ≠ 149) : commitS S i = S i := by unfold commitS; rw [if_neg c, if_neg (by omega)]
/-- a row with another transaction, but the same rows -/
theorem StOk.rows {S' : Int → Int} (hO : StOk S) (e : ∀ i, 0 ≤ i → i < 744 → i ≠ 149 → S' i = S i) (hT : S 0 ≤ 4) (h9 : S' 149 = 0) : StOk S' := by
  obtain ⟨o1, o2, o3, o4, o5, o6, o7⟩ := hO
  have e148 := e 148 (by decide) (by decide) (by decide)
  refine ⟨by rw [e148]; exact o1, Or.inl h9, fun q q0 q1 hq => ?_, fun q a b z => ?_, fun q a b => ?_, ?_, fun z => absurd (h9.symm.trans z) (by decide)⟩
  · rw [e (150 + q) (by omega) (by omega) (by omega)] at hq
    obtain ⟨a, b⟩ := o3 q q0 q1 hq
    rw [e (249 + q) (by omega) (by omega) (by omega), e 0 (by decide) (by decide) (by decide), e (4 + S (249 + q)) (by omega) (by omega) (by omega)]
    refine ⟨a, fun c c0 c1 => ?_⟩
    rw [e (348 + (4 * q + c)) (by omega) (by omega) (by omega)]
    exact b c c0 c1
  · rw [e148]
    exact o4 q a b (by rw [← e (150 + q) (by omega) (by omega) (by omega)]; exact z)
  · rw [e (150 + q) (by omega) (by omega) (by omega)]; exact o5 q a b
  · unfold liv
    rw [alv_cong (fun q a b => e (150 + q) (by omega) (by omega) (by omega))]
    exact o6
theorem StOk.commit (hO : StOk S) (hT : S 0 ≤ 4) : StOk (commitS S) := hO.rows (fun i _ b c => cm_lo b c) hT (by unfold commitS; rw [if_pos rfl])
theorem StOk.begin (hO : StOk S) (hT : S 0 ≤ 4) : StOk (beginS S) := by
  obtain ⟨o1, o2, o3, o4, o5, o6, o7⟩ := hO
  have v : ∀ q, 0 ≤ q → q < 99 → S (150 + q) = 1 → (0 ≤ S (249 + q) ∧ S (249 + q) < S 0) ∧ ∀ c, 0 ≤ c → c < 4 → (-1 ≤ S (348 + (4 * q + c)) ∧ S (348 + (4 * q + c)) ≤ 99) ∧ (S (4 + S (249 + q)) ≤ c → S (348 + (4 * q + c)) = -1) := o3
  refine ⟨by rw [bg_lo (by decide)]; exact o1, Or.inr (by unfold beginS; rw [if_pos rfl]), fun q q0 q1 hq => ?_, fun q a b z => ?_, fun q a b => ?_, ?_, fun _ => ⟨fun q q0 q1 hq => ?_, fun q a b z => ?_, fun q a b => ?_, ?_⟩⟩
  · rw [bg_al q0 q1] at hq
    obtain ⟨a, b⟩ := v q q0 q1 hq
    rw [bg_tb q0 q1, bg_lo (by decide), bg_lo (by omega)]
    refine ⟨a, fun c c0 c1 => ?_⟩
    rw [bg_ce (by omega) (by omega)]
    exact b c c0 c1
  · rw [bg_lo (by decide)]; rw [bg_al a b] at z; exact o4 q a b z
  · rw [bg_al a b]; exact o5 q a b
  · unfold liv
    rw [alv_cong (al' := fun q => S (150 + q)) (fun q a b => bg_al a b)]
    exact o6
  · dsimp only at hq ⊢
    rw [bg_al2 q0 q1] at hq
    obtain ⟨a, b⟩ := v q q0 q1 hq
    rw [bg_tb q0 q1, bg_lo (by decide), bg_lo (by omega)]
    refine ⟨a, fun c c0 c1 => ?_⟩
    rw [bg_ce2 (by omega) (by omega)]
    exact b c c0 c1
  · rw [bg_lo (by decide)]; rw [bg_al2 a b] at z; exact o4 q a b z
  · rw [bg_al2 a b]; exact o5 q a b
  · rw [alv_cong (al' := fun q => S (150 + q)) (fun q a b => bg_al2 a b)]
    exact o6
theorem StOk.back (hO : StOk S) (hT : S 0 ≤ 4) (h9 : S 149 = 1) : StOk (backS S) := by
  obtain ⟨o1, o2, o3, o4, o5, o6, o7⟩ := hO
  obtain ⟨p1, p2, p3, p4⟩ := o7 h9
  refine ⟨by rw [bk_lo (by decide)]; exact o1, Or.inl (by unfold backS; rw [if_pos rfl]), fun q q0 q1 hq => ?_, fun q a b z => ?_, fun q a b => ?_, ?_, fun z => ?_⟩
  · rw [bk_al q0 q1] at hq
    obtain ⟨a, b⟩ := p1 q q0 q1 hq
    dsimp only at a b
    rw [bk_tb q0 q1, bk_lo (by decide), bk_lo (by omega)]
    refine ⟨a, fun c c0 c1 => ?_⟩
    rw [bk_ce (by omega) (by omega)]
    exact b c c0 c1
  · rw [bk_lo (by decide)]; rw [bk_al a b] at z; exact p2 q a b z
  · rw [bk_al a b]; exact p3 q a b
  · unfold liv
    rw [alv_cong (al' := fun q => S (744 + q)) (fun q a b => bk_al a b)]
    exact p4
  · unfold backS at z; rw [if_pos rfl] at z; exact absurd z (by decide)
end SPEC
/-! the class's -/
section CLS
variable {h : hH} {S : Int → Int}
theorem stC13_lay1 : refT.all (fun q => !(stC 13 q.1 q.2.1)) = true := by decide +kernel
theorem stC13_lay2 : lenT.all (fun q => !(stC 13 q.1 (-1))) = true := by decide +kernel
theorem start_ok (hL : Lay h) (hH : StH h 13 S) (h9 : S 149 = 0) : ∃ h', fX8_start h 13 = some (1, h') ∧ StH h' 13 (beginS S) ∧ Fr (stC 13) h h' := by
  obtain ⟨r1, r2, r3, r4⟩ := hH
  obtain ⟨s0, s1, sA, sB⟩ := stAt_13 hL
  obtain ⟨g, g1, g2, g3⟩ := copyRows_ok sA sB (by decide)
  unfold fX8_start
  rw [r3, h9, if_pos rfl, s0, s1, g1]
  simp only [Option.bind_some, pput]
  have f1 : ∀ a b, rwC (13 + 5) a b = false → g a b = h a b := g3
  have row : ∀ a, a < 18 ∨ 21 < a → g a = h a := fun a ha => funext (fun b => f1 a b (rwC_far (by omega)))
  refine ⟨_, rfl, ⟨?_, ?_, ?_, fun _ => ?_⟩, fun a b hab => ?_⟩
  · have q : RowsS g (13 + 1) S := RowsR.same r1 (by rw [row _ (by decide)]) (by rw [row _ (by decide)]) (by rw [row _ (by decide)]) (by rw [row _ (by decide)])
    have q2 : RowsS (hup g 13 2 1) (13 + 1) S := RowsR.same q (by rw [hup_off (by decide)]) (by rw [hup_off (by decide)]) (by rw [hup_off (by decide)]) (by rw [hup_off (by decide)])
    exact q2.cong (fun q a b => (bg_al a b).symm) (fun q a b _ => (bg_tb a b).symm) (fun q c a b _ x y => (bg_ce (by omega) (by omega)).symm)
  · rw [hup_off (by decide), row _ (by decide), r2, bg_lo (by decide)]
  · rw [hup_at]
    unfold beginS
    rw [if_pos rfl]
  · have q := RowsR.cp r1 g2
    have q2 : RowsR (hup g 13 2 1) (13 + 5) (fun q => S (150 + q)) (fun q => S (249 + q)) (fun i => S (348 + i)) := RowsR.same q (by rw [hup_off (by decide)]) (by rw [hup_off (by decide)]) (by rw [hup_off (by decide)]) (by rw [hup_off (by decide)])
    exact q2.cong (fun q a b => (bg_al2 a b).symm) (fun q a b _ => (bg_tb a b).symm) (fun q c a b _ x y => (bg_ce2 (by omega) (by omega)).symm)
  · obtain ⟨c1, c2, c3⟩ := stC_split hab
    rw [hup_ne c1, f1 _ _ c3]
theorem goBack_ok (hL : Lay h) (hH : StH h 13 S) (h9 : S 149 = 1) : ∃ h', fX8_goBack h 13 = some (1, h') ∧ StH h' 13 (backS S) ∧ Fr (stC 13) h h' := by
  obtain ⟨r1, r2, r3, r4⟩ := hH
  obtain ⟨s0, s1, sA, sB⟩ := stAt_13 hL
  obtain ⟨g, g1, g2, g3⟩ := copyRows_ok sB sA (by decide)
  have f1 : ∀ a b, rwC (13 + 1) a b = false → g a b = h a b := g3
  have row : ∀ a, a < 14 ∨ 17 < a → g a = h a := fun a ha => funext (fun b => f1 a b (rwC_far (by omega)))
  unfold fX8_goBack
  rw [r3, h9, if_neg (by decide), s0, s1, g1]
  simp only [Option.bind_some, pput]
  rw [row 13 (by decide), s0, r2]
  refine ⟨_, rfl, ⟨?_, ?_, ?_, fun z => ?_⟩, fun a b hab => ?_⟩
  · have q := RowsR.cp (r4 h9) g2
    have q2 : RowsR (hup (hup g (13 + 1) 1 (S 148)) 13 2 0) (13 + 1) (fun q => S (744 + q)) (fun q => S (249 + q)) (fun i => S (843 + i)) := RowsR.same q (by rw [hup_off (by decide), hup_ne (by decide)]) (by rw [hup_off (by decide), hup_off (by decide)]) (by rw [hup_off (by decide), hup_off (by decide)]) (by rw [hup_off (by decide), hup_off (by decide)])
    exact q2.cong (fun q a b => (bk_al a b).symm) (fun q a b _ => (bk_tb a b).symm) (fun q c a b _ x y => (bk_ce (by omega) (by omega)).symm)
  · rw [hup_off (by decide), hup_at, bk_lo (by decide)]
  · rw [hup_at]
    unfold backS
    rw [if_pos rfl]
  · unfold backS at z
    rw [if_pos rfl] at z
    exact absurd z (by decide)
  · obtain ⟨c1, c2, c3⟩ := stC_split hab
    have c4 : ¬ (a = 13 + 1 ∧ b = 1) := fun z => by rw [z.1, z.2] at c2; exact absurd c2 (by decide)
    rw [hup_ne c1, hup_ne c4, f1 _ _ c2]
theorem commitC_ok (hH : StH h 13 S) : StH (hup h 13 2 0) 13 (commitS S) ∧ Fr (stC 13) h (hup h 13 2 0) := by
  obtain ⟨r1, r2, r3, r4⟩ := hH
  refine ⟨⟨?_, ?_, ?_, fun z => ?_⟩, Fr.up (by decide)⟩
  · have q2 : RowsS (hup h 13 2 0) (13 + 1) S := RowsR.same r1 (by rw [hup_off (by decide)]) (by rw [hup_off (by decide)]) (by rw [hup_off (by decide)]) (by rw [hup_off (by decide)])
    exact q2.cong (fun q a b => (cm_lo (by omega) (by omega)).symm) (fun q a b _ => (cm_lo (by omega) (by omega)).symm) (fun q c a b _ x y => (cm_lo (by omega) (by omega)).symm)
  · rw [hup_off (by decide), r2, cm_lo (by decide) (by decide)]
  · rw [hup_at]
    unfold commitS
    rw [if_pos rfl]
  · unfold commitS at z
    rw [if_pos rfl] at z
    exact absurd z (by decide)
end CLS
