/-! VIOLATIONS: the whole list of the model -/
section JUDGES
variable {h0 h : hH} {late : Int} {L : List (Int × Int × Int)}
theorem jdg4 (hs : SOk (h0 194)) (hb : (liv (h0 194)).length ≤ 40) (hK : KM h0 h L) (hl : (L.length : Int) ≤ 640) : ∃ x, lpO (fX12_judgesAll_s251 h 192 late) (h, 0) = some x ∧ KM h0 x (L ++ (rng 0 (h0 194 3)).flatMap (chkL1 (h0 194) late)) := by
  have h3 := hs.2.2.2.1
  refine flat_loop (h0 194 3) (chkL1 (h0 194) late) _ h3.1 hK (fun i h' i0 i1 hI => ?_) (fun h' hI => ?_)
  · have hL := hI.1
    have e := hI.s
    have ep := ph_len (G := chkL1 (h0 194) late) (fun _ => chkL1_len) hb i0
    have c142 := (hs.2.2.2.2.2.2.2.2.2 i i0 i1).2.2.2.2.2
    unfold fX12_judgesAll_s251 fX12_judgesAll_b282 chkL1
    simp (disch := omega) only [w32_id, sgk hL, e, if_pos i1, Option.bind_some]
    have go : ∃ h'', lpO (fX12_judgesAll_s284 h' 192 late i) (h', 0) = some (.inl (h'', i + 1)) ∧ KM h0 h'' ((L ++ (rng 0 i).flatMap (chkL1 (h0 194) late)) ++ pickL (h0 194) 4 i (fun q => h0 194 (249 + q) = h0 194 (112 + i) ∧ badC (h0 194) i q)) := by
      refine pickM (f := fX12_judgesAll_s284 h' 192 late i) 4 i _ (fun h => .inl (h, i + 1)) hI (by rw [List.length_append]; omega) (fun q g q0 q1 hg eg => ?_) (fun g => ?_)
      · unfold fX12_judgesAll_s284
        have hs' : SOk (g 194) := by rw [eg]; exact hs
        obtain ⟨b, b1, b2⟩ := isBadCheck_ok hg hs' q0 q1 i0 (by rw [eg]; exact i1)
        rw [eg] at b2
        simp (disch := omega) only [w32_id, sgk hg, eg, if_pos q1, Option.bind_some, isRowOf_ok hg, b1]
        by_cases a : h0 194 (150 + q) = 1 ∧ h0 194 (249 + q) = h0 194 (112 + i)
        · simp only [if_pos a, if_neg (show ¬ (1 : Int) = 0 by decide)]
          rcases b2 with ⟨rfl, y⟩ | ⟨rfl, y⟩
          · simp only [if_neg (show ¬ (1 : Int) = 0 by decide)]
            exact ⟨fun _ => trivial, fun z => absurd ⟨a.1, a.2, y⟩ z⟩
          · simp only [if_true]
            exact ⟨fun z => absurd z.2.2 y, fun _ => trivial⟩
        · simp only [if_neg a, if_true]
          exact ⟨fun z => absurd ⟨z.1, z.2.1⟩ a, fun _ => trivial⟩
      · unfold fX12_judgesAll_s284
        simp (disch := omega) only [w32_id, if_neg (show ¬ (99 : Int) < 99 by decide)]
    by_cases a : late = 0
    · simp only [if_pos a]
      rcases c142 with b | b
      · simp only [b, if_neg (show ¬ (0 : Int) = 1 by decide)]
        rw [if_neg (by omega)]
        exact go
      · simp only [b, if_true]
        rw [if_pos ⟨a, trivial⟩, List.append_nil]
        exact ⟨h', rfl, hI⟩
    · simp only [if_neg a]
      rw [if_neg (fun z => a z.1)]
      exact go
  · have hL := hI.1
    have e := hI.s
    unfold fX12_judgesAll_s251
    simp (disch := omega) only [sgk hL, e, if_neg (Int.lt_irrefl _), Option.bind_some]
    exact ⟨_, rfl, hI⟩
theorem jdg3 (hs : SOk (h0 194)) (hb : (liv (h0 194)).length ≤ 40) (hK : KM h0 h L) (hl : (L.length : Int) ≤ 400) : ∃ x, lpO (fX12_judgesAll_s166 h 192 late) (h, 0) = some x ∧ KM h0 x (L ++ (rng 0 (h0 194 2)).flatMap (refL1 (h0 194) late) ++ (rng 0 (h0 194 3)).flatMap (chkL1 (h0 194) late)) := by
  have h2 := hs.2.2.1
  refine flat_loop (h0 194 2) (refL1 (h0 194) late) _ h2.1 hK (fun i h' i0 i1 hI => ?_) (fun h' hI => ?_)
  · have hL := hI.1
    have e := hI.s
    have ep := ph_len (G := refL1 (h0 194) late) (fun _ => refL1_len) hb i0
    have c106 := (hs.2.2.2.2.2.2.2.2.1 i i0 i1).2.2.2.2.2.2.2.2.2.2
    unfold fX12_judgesAll_s166 fX12_judgesAll_b196 refL1
    simp (disch := omega) only [w32_id, sgk hL, e, if_pos i1, Option.bind_some]
    have go : ∃ h'', lpO (fX12_judgesAll_s198 h' 192 late i) (h', 0) = some (.inl (h'', i + 1)) ∧ KM h0 h'' ((L ++ (rng 0 i).flatMap (refL1 (h0 194) late)) ++ pickL (h0 194) 3 i (fun q => h0 194 (249 + q) = h0 194 (58 + i) ∧ badR (h0 194) i q)) := by
      refine pickM (f := fX12_judgesAll_s198 h' 192 late i) 3 i _ (fun h => .inl (h, i + 1)) hI (by rw [List.length_append]; omega) (fun q g q0 q1 hg eg => ?_) (fun g => ?_)
      · unfold fX12_judgesAll_s198
        have hs' : SOk (g 194) := by rw [eg]; exact hs
        obtain ⟨b, b1, b2⟩ := isBadRef_ok hg hs' q0 q1 i0 (by rw [eg]; exact i1)
        rw [eg] at b2
        simp (disch := omega) only [w32_id, sgk hg, eg, if_pos q1, Option.bind_some, isRowOf_ok hg, b1]
        by_cases a : h0 194 (150 + q) = 1 ∧ h0 194 (249 + q) = h0 194 (58 + i)
        · simp only [if_pos a, if_neg (show ¬ (1 : Int) = 0 by decide)]
          rcases b2 with ⟨rfl, y⟩ | ⟨rfl, y⟩
          · simp only [if_neg (show ¬ (1 : Int) = 0 by decide)]
            exact ⟨fun _ => trivial, fun z => absurd ⟨a.1, a.2, y⟩ z⟩
          · simp only [if_true]
            exact ⟨fun z => absurd z.2.2 y, fun _ => trivial⟩
        · simp only [if_neg a, if_true]
          exact ⟨fun z => absurd ⟨z.1, z.2.1⟩ a, fun _ => trivial⟩
      · unfold fX12_judgesAll_s198
        simp (disch := omega) only [w32_id, if_neg (show ¬ (99 : Int) < 99 by decide)]
    by_cases a : late = 0
    · simp only [if_pos a]
      rcases c106 with b | b
      · simp only [b, if_neg (show ¬ (0 : Int) = 1 by decide)]
        rw [if_neg (by omega)]
        exact go
      · simp only [b, if_true]
        rw [if_pos ⟨a, trivial⟩, List.append_nil]
        exact ⟨h', rfl, hI⟩
    · simp only [if_neg a]
      rw [if_neg (fun z => a z.1)]
      exact go
  · have hL := hI.1
    have e := hI.s
    have ep := ph_len (G := refL1 (h0 194) late) (fun _ => refL1_len) hb h2.1
    unfold fX12_judgesAll_s166
    simp (disch := omega) only [sgk hL, e, if_neg (Int.lt_irrefl _), Option.bind_some]
    obtain ⟨x, x1, x2⟩ := jdg4 (late := late) hs hb hI (by rw [List.length_append]; omega)
    exact ⟨x, by rw [x1]; rfl, x2⟩
theorem jdg2 (hs : SOk (h0 194)) (hb : (liv (h0 194)).length ≤ 40) (hK : KM h0 h L) (hl : (L.length : Int) ≤ 160) : ∃ x, lpO (fX12_judgesAll_s101 h 192 late) (h, 0) = some x ∧ KM h0 x (L ++ (rng 0 (h0 194 1)).flatMap (keyL1 (h0 194)) ++ (rng 0 (h0 194 2)).flatMap (refL1 (h0 194) late) ++ (rng 0 (h0 194 3)).flatMap (chkL1 (h0 194) late)) := by
  have h1 := hs.2.1
  refine flat_loop (h0 194 1) (keyL1 (h0 194)) _ h1.1 hK (fun i h' i0 i1 hI => ?_) (fun h' hI => ?_)
  · have hL := hI.1
    have e := hI.s
    have ep := ph_len (G := keyL1 (h0 194)) (fun _ => pickL_len) hb i0
    unfold fX12_judgesAll_s101
    simp (disch := omega) only [w32_id, sgk hL, e, if_pos i1, Option.bind_some]
    refine pickM (f := fX12_judgesAll_s113 h' 192 late i) 2 i _ (fun h => .inl (h, i + 1)) hI (by rw [List.length_append]; omega) (fun q g q0 q1 hg eg => ?_) (fun g => ?_)
    · unfold fX12_judgesAll_s113
      have hs' : SOk (g 194) := by rw [eg]; exact hs
      obtain ⟨b, b1, b2⟩ := isLikeEarlier_ok hg hs' q0 q1 i0 (by rw [eg]; exact i1)
      rw [eg] at b2
      simp (disch := omega) only [w32_id, sgk hg, eg, if_pos q1, Option.bind_some, isRowOf_ok hg, b1]
      by_cases a : h0 194 (150 + q) = 1 ∧ h0 194 (249 + q) = h0 194 (40 + i)
      · simp only [if_pos a, if_neg (show ¬ (1 : Int) = 0 by decide)]
        rcases b2 with ⟨rfl, y⟩ | ⟨rfl, y⟩
        · simp only [if_neg (show ¬ (1 : Int) = 0 by decide)]
          exact ⟨fun _ => trivial, fun z => absurd ⟨a.1, a.2, y⟩ z⟩
        · simp only [if_true]
          exact ⟨fun z => absurd z.2.2 y, fun _ => trivial⟩
      · simp only [if_neg a, if_true]
        exact ⟨fun z => absurd ⟨z.1, z.2.1⟩ a, fun _ => trivial⟩
    · unfold fX12_judgesAll_s113
      simp (disch := omega) only [w32_id, if_neg (show ¬ (99 : Int) < 99 by decide)]
  · have hL := hI.1
    have e := hI.s
    have ep := ph_len (G := keyL1 (h0 194)) (fun _ => pickL_len) hb h1.1
    unfold fX12_judgesAll_s101
    simp (disch := omega) only [sgk hL, e, if_neg (Int.lt_irrefl _), Option.bind_some]
    obtain ⟨x, x1, x2⟩ := jdg3 (late := late) hs hb hI (by rw [List.length_append]; omega)
    exact ⟨x, by rw [x1]; rfl, x2⟩
/-- the model's list of violations is the list -/
theorem judgesAll_ok (hL : Lay h) (hs : SOk (h 194)) (hb : (liv (h 194)).length ≤ 40) : ∃ h', fX12_judgesAll h 192 late = some h' ∧ KM h h' (vioL (h 194) late) := by
  have hS0 := hs.1
  have hK : KM h (hup h 192 26 0) [] := ⟨hL.upF (by decide), ⟨hup_at, fun i x hx => by simp at hx⟩, fun a a1 a2 a3 a4 => hup_off a1, fun j hj => hup_ne (fun z => hj z.2)⟩
  unfold fX12_judgesAll
  simp only [pput, Option.bind_some]
  have main := flat_loop (f := fX12_judgesAll_s7 (hup h 192 26 0) 192 late) (K := KM h) (h := hup h 192 26 0) (L := []) (h 194 0) (needT (h 194)) (fun x => KM h x ([] ++ (rng 0 (h 194 0)).flatMap (needT (h 194)) ++ (rng 0 (h 194 1)).flatMap (keyL1 (h 194)) ++ (rng 0 (h 194 2)).flatMap (refL1 (h 194) late) ++ (rng 0 (h 194 3)).flatMap (chkL1 (h 194) late))) hS0.1 hK (fun t h' t0 t1 hI => ?_) (fun h' hI => ?_)
  · obtain ⟨x, x1, x2⟩ := main
    exact ⟨x, x1, x2⟩
  · have hL' := hI.1
    have e := hI.s
    have hw := hs.2.2.2.2.1 t t0 t1
    have nl := needs_len hs t.toNat (by omega)
    rw [show ((t.toNat : Nat) : Int) = t by omega] at nl
    have cs := csum_s (S := h 194) t0
    have cl := csum_le (S := h 194) (t := t + 1)
    unfold fX12_judgesAll_s7
    simp (disch := omega) only [sgk hL', e, if_pos t1, Option.bind_some]
    have inner := flat_loop (f := fX12_judgesAll_s19 h' 192 late t) (K := KM h) (h := h') (L := [] ++ (rng 0 t).flatMap (needT (h 194))) (h 194 (4 + t)) (needC (h 194) t) (fun x => ∃ h'', x = .inl (h'', t + 1) ∧ KM h h'' (([] ++ (rng 0 t).flatMap (needT (h 194))) ++ needT (h 194) t)) (by omega) hI (fun c h' c0 c1 hI => ?_) (fun h' hI => ?_)
    · obtain ⟨x, x1, h'', x2, x3⟩ := inner
      exact ⟨h'', by rw [x1, x2], x3⟩
    · have hL' := hI.1
      have e := hI.s
      obtain ⟨b, b0, b1⟩ := isNeeded_ok (h := h') hL' (by rw [e]; exact hs) t0 (show t < 4 by omega) c0 (show c < 4 by omega)
      rw [e] at b1
      have nl2 := needT_len (S := h 194) (t := t) (c := c) (by omega)
      unfold fX12_judgesAll_s19
      simp (disch := omega) only [w32_id, sgk hL', e, if_pos c1, Option.bind_some, b0]
      have bl : ((([] : List (Int × Int × Int)) ++ (rng 0 t).flatMap (needT (h 194))) ++ (rng 0 c).flatMap (needC (h 194) t)).length + 99 ≤ 960 := by rw [List.nil_append, List.length_append]; omega
      unfold needC at bl ⊢
      rcases b1 with ⟨rfl, b2⟩ | ⟨rfl, b2⟩
      · rw [if_neg (by decide), if_pos b2]
        refine pickM (f := fX12_judgesAll_s46 h' 192 late t c) 1 c _ (fun h => .inl (h, c + 1)) hI bl (fun q g q0 q1 hg eg => ?_) (fun g => ?_)
        · unfold fX12_judgesAll_s46
          simp (disch := omega) only [w32_id, sgk hg, if_pos q1, Option.bind_some, isRowOf_ok hg, cellOf_ok hg, eg]
          by_cases a : h 194 (150 + q) = 1 ∧ h 194 (249 + q) = t
          · simp only [if_pos a, if_neg (show ¬ (1 : Int) = 0 by decide)]
            by_cases y : h 194 (348 + (4 * q + c)) < 0
            · simp only [if_pos y]
              exact ⟨fun _ => trivial, fun z => absurd ⟨a.1, a.2, y⟩ z⟩
            · simp only [if_neg y]
              exact ⟨fun z => absurd z.2.2 y, fun _ => trivial⟩
          · simp only [if_neg a, if_true]
            exact ⟨fun z => absurd ⟨z.1, z.2.1⟩ a, fun _ => trivial⟩
        · unfold fX12_judgesAll_s46
          simp (disch := omega) only [w32_id, if_neg (show ¬ (99 : Int) < 99 by decide)]
      · rw [if_pos rfl, if_neg b2, List.append_nil]
        exact ⟨h', rfl, hI⟩
    · have hL' := hI.1
      have e := hI.s
      unfold fX12_judgesAll_s19
      simp (disch := omega) only [w32_id, sgk hL', e, if_neg (Int.lt_irrefl _), Option.bind_some]
      exact ⟨_, rfl, h', rfl, hI⟩
  · have hL' := hI.1
    have e := hI.s
    have nl := needs_len hs (h 194 0).toNat (by omega)
    rw [show (((h 194 0).toNat : Nat) : Int) = h 194 0 by omega] at nl
    have cl := csum_le (S := h 194) (t := h 194 0)
    unfold fX12_judgesAll_s7
    simp (disch := omega) only [sgk hL', e, if_neg (Int.lt_irrefl _), Option.bind_some]
    obtain ⟨x, x1, x2⟩ := jdg2 (late := late) hs hb hI (by rw [List.nil_append]; omega)
    exact ⟨x, by rw [x1]; rfl, x2⟩
end JUDGES
