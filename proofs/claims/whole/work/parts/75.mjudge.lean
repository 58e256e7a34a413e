/-! JUDGING, the model's: all is done at once; assembled -/
theorem lay194 {h k : hH} (hL : Lay h) (e : ∀ a, a ≠ 194 → k a = h a) (el : k 194 (-1) = h 194 (-1)) : Lay k := by
  have h1 : refT.all (fun q => !(q.1 == 194)) = true := by decide +kernel
  simp only [List.all_eq_true, Bool.not_eq_true', beq_eq_false_iff_ne] at h1
  refine hL.of (fun q hq => by rw [e _ (h1 q hq)]) (fun q hq => ?_)
  by_cases z : q.1 = 194
  · rw [z]; exact el
  · rw [e _ z]
section MJ
variable {S T G W : Int → Int} {to : Int} {h : hH}
theorem isOther_raw (hL : Lay h) {v : Int} {q c : Int} (q0 : 0 ≤ q) (q1 : q < 99) (c0 : 0 ≤ c) (c1 : c < 4) (e3 : h 203 (4 * q + c) = W (4 * q + c)) (e4 : h 194 (348 + (4 * q + c)) = S (348 + (4 * q + c))) : ∃ b, fX12_isOther h 192 q c = some b ∧ Bt b (othS S W q c) := by
  unfold fX12_isOther othS
  rw [w32_id (x := 4 * q) (by omega) (by omega), w32_id (by omega) (by omega), ly_192_27 hL, aget_in (by omega) (by rw [ll_203 hL]; omega), e3]
  simp only [Option.bind_some]
  by_cases a : W (4 * q + c) = -9
  · rw [if_pos a]
    exact ⟨0, rfl, Or.inr ⟨rfl, fun z => z.1 a⟩⟩
  · rw [if_neg a, cellOf_ok hL q0 q1 c0 c1, e4]
    simp only [Option.bind_some]
    by_cases b : W (4 * q + c) = S (348 + (4 * q + c))
    · rw [if_pos b]
      exact ⟨0, rfl, Or.inr ⟨rfl, fun z => z.2 b⟩⟩
    · rw [if_neg b]
      exact ⟨1, rfl, Or.inl ⟨rfl, a, b⟩⟩
noncomputable def ptS (S G W : Int → Int) (l : Int) : Int → Int := fun i => if (150 ≤ i ∧ i < 150 + l) ∨ (348 ≤ i ∧ i < 348 + 4 * l) then bldS S G W i else S i
noncomputable def cmS (S G W : Int → Int) (l : Int) : Int := ((rng 0 l).filter (fun q => @decide (S (150 + q) = 1 ∧ G q < 0 ∧ ∃ c, 0 ≤ c ∧ c < 4 ∧ othS S W q c) (Classical.propDecidable _))).length
theorem cmS_s {l : Int} (l0 : 0 ≤ l) : cmS S G W (l + 1) = cmS S G W l + @ite _ (S (150 + l) = 1 ∧ G l < 0 ∧ ∃ c, 0 ≤ c ∧ c < 4 ∧ othS S W l c) (Classical.propDecidable _) 1 0 := by
  unfold cmS
  rw [rng_snoc l0, List.filter_append, List.length_append]
  by_cases z : S (150 + l) = 1 ∧ G l < 0 ∧ ∃ c, 0 ≤ c ∧ c < 4 ∧ othS S W l c
  · rw [if_pos z, List.filter_cons_of_pos (by simpa using z)]
    rfl
  · rw [if_neg z, List.filter_cons_of_neg (by simpa using z)]
    rfl
theorem cmS_b {l : Int} (l0 : 0 ≤ l) : 0 ≤ cmS S G W l ∧ cmS S G W l ≤ l := by
  have : ((rng 0 l).filter (fun q => @decide (S (150 + q) = 1 ∧ G q < 0 ∧ ∃ c, 0 ≤ c ∧ c < 4 ∧ othS S W q c) (Classical.propDecidable _))).length ≤ (rng 0 l).length := List.length_filter_le _ _
  rw [rng_len] at this
  unfold cmS
  omega
theorem doesAll_ok (hs : SOk S) (hO : StOk S) (hM : MC S T to h) (hG : GoM G h) (hW : ∀ j, 0 ≤ j → j < 396 → h 203 j = W j) (hWO : WOk S W) : ∃ k, fX12_doesAll h 192 = some (cmS S G W 99, k) ∧ k 194 = bldS S G W ∧ ∀ a, a ≠ 194 → k a = h a := by
  obtain ⟨hL, es, -, -⟩ := hM
  have o5 := hO.2.2.2.2.1
  have o3 := hO.2.2.1
  have h4 := hs.1
  have mkL : ∀ (k : hH), (∀ a, a ≠ 194 → k a = h a) → k 194 (-1) = S (-1) → Lay k := fun k ka kl => lay194 hL ka (by rw [kl, es])
  unfold fX12_doesAll
  have key := lpO_invG (f := fX12_doesAll_s4 h 192) (fun r (a : hH × Int) => (a.1, a.2, r)) 99 (fun r a => (∀ x, x ≠ 194 → a.1 x = h x) ∧ (∀ i, a.1 194 i = ptS S G W r i) ∧ a.2 = cmS S G W r) (fun res => ∃ k, res = (cmS S G W 99, k) ∧ k 194 = bldS S G W ∧ ∀ a, a ≠ 194 → k a = h a) (fun r a r0 r1 hI => ?_) (fun a hI => ?_) (Int.le_refl 0) (by decide) (a := (h, 0)) ⟨fun _ _ => rfl, fun i => by dsimp only; unfold ptS; rw [if_neg (by omega), es], rfl⟩
  · obtain ⟨res, r1, k, r2, r3⟩ := key
    exact ⟨k, by rw [r1, r2], r3⟩
  · obtain ⟨k, u⟩ := a
    obtain ⟨I1, I2, I3⟩ := hI
    dsimp only at I1 I2 I3 ⊢
    have Lk : Lay k := mkL k I1 (by rw [I2]; unfold ptS; rw [if_neg (by omega)])
    have rd : ∀ i, 0 ≤ i → i < 1420 → ¬ ((150 ≤ i ∧ i < 150 + r) ∨ (348 ≤ i ∧ i < 348 + 4 * r)) → aget k (k 192 6) i = some (S i) := fun i i0 i1 hi => by
      rw [sgk Lk i0 i1, I2]
      unfold ptS
      rw [if_neg hi]
    have sn := cmS_s (S := S) (G := G) (W := W) r0
    have cb := cmS_b (S := S) (G := G) (W := W) r0
    -- how the next partial row is told
    have nx : ∀ i, ptS S G W (r + 1) i = if i = 150 + r then (if S (150 + r) = 1 ∧ 0 ≤ G r then 0 else S (150 + r)) else if 348 + 4 * r ≤ i ∧ i < 348 + 4 * r + 4 then bldS S G W i else ptS S G W r i := fun i => by
      unfold ptS
      by_cases a : i = 150 + r
      · rw [if_pos (by omega), if_pos a, a, bl_al r0 r1]
      · rw [if_neg a]
        by_cases b : 348 + 4 * r ≤ i ∧ i < 348 + 4 * r + 4
        · rw [if_pos b, if_pos (by omega)]
        · rw [if_neg b]
          by_cases c : (150 ≤ i ∧ i < 150 + r) ∨ (348 ≤ i ∧ i < 348 + 4 * r)
          · rw [if_pos c, if_pos (by omega)]
          · rw [if_neg c, if_neg (by omega)]
    have bc : ∀ i, 348 + 4 * r ≤ i → i < 348 + 4 * r + 4 → bldS S G W i = if S (150 + r) = 1 ∧ G r < 0 ∧ W (i - 348) ≠ -9 then W (i - 348) else S i := fun i i0 i1 => by
      have := bl_ce (S := S) (G := G) (W := W) (c := i - 348 - 4 * r) r0 r1 (by omega) (by omega)
      rw [show 4 * r + (i - 348 - 4 * r) = i - 348 by omega, show 348 + (i - 348) = i by omega] at this
      exact this
    have ps : ∀ i, 348 + 4 * r ≤ i → i < 348 + 4 * r + 4 → ptS S G W r i = S i := fun i i0 i1 => by
      unfold ptS; rw [if_neg (by omega)]
    have pa : ptS S G W r (150 + r) = S (150 + r) := by unfold ptS; rw [if_neg (by omega)]
    unfold fX12_doesAll_s4
    dsimp only
    rw [if_pos r1, w32_id (x := 150 + r) (by omega) (by omega), rd _ (by omega) (by omega) (by omega)]
    simp only [Option.bind_some]
    rw [w1 (by omega) (by omega)]
    by_cases a : S (150 + r) = 0
    · rw [if_pos a]
      refine Or.inl ⟨(k, u), rfl, I1, fun i => ?_, ?_⟩
      · dsimp only
        rw [I2, nx]
        by_cases b : i = 150 + r
        · rw [if_pos b, if_neg (by omega), b, pa]
        · rw [if_neg b]
          by_cases c : 348 + 4 * r ≤ i ∧ i < 348 + 4 * r + 4
          · rw [if_pos c, bc i c.1 c.2, if_neg (by omega), ps i c.1 c.2]
          · rw [if_neg c]
      · rw [sn, if_neg (by omega), Int.add_zero]; exact I3
    · have al : S (150 + r) = 1 := (o5 r r0 r1).resolve_left a
      have hv := o3 r r0 r1 al
      have hw := hs.2.2.2.2.1 _ hv.1.1 hv.1.2
      rw [if_neg a, ly_192_29 Lk, aget_in r0 (by rw [ll_205 Lk]; exact r1), I1 _ (by decide), hG r r0 r1]
      simp only [Option.bind_some]
      by_cases b : G r < 0
      · rw [if_pos b]
        have inner := lpO_invG (f := fX12_doesAll_s54 k 192 u r) (fun c (a : hH × Int) => (a.1, a.2, c)) (S (4 + S (249 + r))) (fun c a => (∀ x, x ≠ 194 → a.1 x = h x) ∧ (∀ i, a.1 194 i = if 348 + 4 * r ≤ i ∧ i < 348 + 4 * r + c then bldS S G W i else ptS S G W r i) ∧ Bt a.2 (∃ c', 0 ≤ c' ∧ c' < c ∧ othS S W r c')) (fun res => ∃ x, res = .inl (x, cmS S G W (r + 1), r + 1) ∧ (∀ a, a ≠ 194 → x a = h a) ∧ ∀ i, x 194 i = ptS S G W (r + 1) i) (fun c a c0 c1 hJ => ?_) (fun a hJ => ?_) (Int.le_refl 0) (by omega) (a := (k, 0)) ⟨I1, fun i => by rw [if_neg (by omega)]; exact I2 i, Or.inr ⟨rfl, fun ⟨c', a, b, _⟩ => by omega⟩⟩
        · obtain ⟨res, q1, x, q2, q3, q4⟩ := inner
          exact Or.inl ⟨(x, cmS S G W (r + 1)), by rw [q1, q2], q3, q4, rfl⟩
        · obtain ⟨x, w⟩ := a
          obtain ⟨J1, J2, J3⟩ := hJ
          dsimp only at J1 J2 J3 ⊢
          have Lx : Lay x := mkL x J1 (by rw [J2, if_neg (by omega)]; unfold ptS; rw [if_neg (by omega)])
          have rx : ∀ i, 0 ≤ i → i < 1420 → ¬ ((150 ≤ i ∧ i < 150 + r) ∨ (348 ≤ i ∧ i < 348 + 4 * r + c)) → x 194 i = S i := fun i i0 i1 hi => by
            rw [J2, if_neg (by omega)]
            unfold ptS
            rw [if_neg (by omega)]
          obtain ⟨o, o1, o2⟩ := isOther_raw (S := S) (W := W) (v := 0) Lx r0 r1 c0 (show c < 4 by omega) (by rw [J1 _ (by decide)]; exact hW _ (by omega) (by omega)) (rx _ (by omega) (by omega) (by omega))
          unfold fX12_doesAll_s54
          dsimp only
          rw [w32_id (x := 249 + r) (by omega) (by omega), sgk Lx (by omega) (by omega), rx _ (by omega) (by omega) (by omega)]
          simp only [Option.bind_some]
          rw [w32_id (x := 4 + S (249 + r)) (by omega) (by omega), sgk Lx (by omega) (by omega), rx _ (by omega) (by omega) (by omega)]
          simp only [Option.bind_some]
          rw [if_pos c1, o1]
          simp only [Option.bind_some]
          rw [w1 (by omega) (by omega)]
          have bi : bldS S G W (348 + (4 * r + c)) = if W (4 * r + c) ≠ -9 then W (4 * r + c) else S (348 + (4 * r + c)) := by
            rw [bl_ce r0 r1 c0 (by omega)]
            by_cases y : W (4 * r + c) ≠ -9
            · rw [if_pos y, if_pos ⟨al, b, y⟩]
            · rw [if_neg y, if_neg (fun z => y z.2.2)]
          rcases o2 with ⟨rfl, z⟩ | ⟨rfl, z⟩
          · rw [if_neg (by decide), w32_id (x := 4 * r) (by omega) (by omega), w32_id (x := 4 * r + c) (by omega) (by omega), w32_id (x := 348 + 4 * r) (by omega) (by omega), w32_id (x := 348 + 4 * r + c) (by omega) (by omega), ly_192_27 Lx, aget_in (by omega) (by rw [ll_203 Lx]; omega), J1 203 (by decide), hW _ (by omega) (by omega)]
            simp only [Option.bind_some]
            rw [aup_s Lx (by omega) (by omega)]
            simp only [Option.bind_some]
            generalize hy : hup x 194 (348 + 4 * r + c) (W (4 * r + c)) = y
            refine Or.inl ⟨(y, 1), rfl, fun a ha => by dsimp only; rw [← hy, hup_off ha]; exact J1 a ha, fun i => ?_, Or.inl ⟨rfl, c, c0, by omega, z⟩⟩
            dsimp only
            rw [← hy]
            by_cases e : i = 348 + 4 * r + c
            · rw [e, hup_at, if_pos (by omega), show 348 + 4 * r + c = 348 + (4 * r + c) by omega, bi, if_pos z.1]
            · rw [hup_ne (fun y => e y.2), J2]
              by_cases f : 348 + 4 * r ≤ i ∧ i < 348 + 4 * r + c
              · rw [if_pos f, if_pos (by omega)]
              · rw [if_neg f, if_neg (by omega)]
          · rw [if_pos rfl]
            refine Or.inl ⟨(x, w), rfl, J1, fun i => ?_, J3.iff ⟨fun ⟨c', a, b, d⟩ => ⟨c', a, by omega, d⟩, fun ⟨c', a, b, d⟩ => ⟨c', a, by
              by_cases e : c' = c
              · rw [e] at d; exact absurd d z
              · omega, d⟩⟩⟩
            dsimp only
            rw [J2]
            by_cases e : i = 348 + 4 * r + c
            · rw [if_neg (by omega), if_pos (by omega), ps i (by omega) (by omega), e, show 348 + 4 * r + c = 348 + (4 * r + c) by omega, bi]
              by_cases y : W (4 * r + c) ≠ -9
              · rw [if_pos y]
                exact (Classical.byContradiction (fun t => z ⟨y, fun t2 => t t2.symm⟩))
              · rw [if_neg y]
            · by_cases f : 348 + 4 * r ≤ i ∧ i < 348 + 4 * r + c
              · rw [if_pos f, if_pos (by omega)]
              · rw [if_neg f, if_neg (by omega)]
        · obtain ⟨x, w⟩ := a
          obtain ⟨J1, J2, J3⟩ := hJ
          dsimp only at J1 J2 J3 ⊢
          have Lx : Lay x := mkL x J1 (by rw [J2, if_neg (by omega)]; unfold ptS; rw [if_neg (by omega)])
          have rx : ∀ i, 0 ≤ i → i < 150 ∨ (249 ≤ i ∧ i < 348) → x 194 i = S i := fun i i0 hi => by
            rw [J2, if_neg (by omega)]
            unfold ptS
            rw [if_neg (by omega)]
          unfold fX12_doesAll_s54 fX12_doesAll_b133
          dsimp only
          rw [w32_id (x := 249 + r) (by omega) (by omega), sgk Lx (by omega) (by omega), rx _ (by omega) (by omega)]
          simp only [Option.bind_some]
          rw [w32_id (x := 4 + S (249 + r)) (by omega) (by omega), sgk Lx (by omega) (by omega), rx _ (by omega) (by omega)]
          simp only [Option.bind_some]
          rw [if_neg (Int.lt_irrefl _), I3, w1 (i := r) (by omega) (by omega)]
          have fin : ∀ i, x 194 i = ptS S G W (r + 1) i := fun i => by
            rw [J2, nx]
            by_cases e : i = 150 + r
            · rw [if_neg (by omega), if_pos e, if_neg (by omega), e, pa]
            · rw [if_neg e]
              by_cases f : 348 + 4 * r ≤ i ∧ i < 348 + 4 * r + S (4 + S (249 + r))
              · rw [if_pos f, if_pos (by omega)]
              · rw [if_neg f]
                by_cases g : 348 + 4 * r ≤ i ∧ i < 348 + 4 * r + 4
                · rw [if_pos g, ps i g.1 g.2, bc i g.1 g.2]
                  have hw9 := hWO r (i - 348 - 4 * r) r0 r1 (by omega) (by omega)
                  rw [show 4 * r + (i - 348 - 4 * r) = i - 348 by omega] at hw9
                  have : W (i - 348) = -9 := hw9.resolve_right (fun y => by omega)
                  rw [if_neg (fun y => y.2.2 this)]
                · rw [if_neg g]
          have eq : (∃ c', 0 ≤ c' ∧ c' < S (4 + S (249 + r)) ∧ othS S W r c') ↔ ∃ c', 0 ≤ c' ∧ c' < 4 ∧ othS S W r c' := ⟨fun ⟨c', a, b, d⟩ => ⟨c', a, by omega, d⟩, fun ⟨c', a, b, d⟩ => ⟨c', a, ((hWO r c' r0 r1 a b).resolve_left d.1).2.2, d⟩⟩
          rcases J3 with ⟨rfl, z⟩ | ⟨rfl, z⟩
          · rw [if_neg (by decide)]
            rw [if_pos ⟨al, b, eq.mp z⟩] at sn
            rw [w32_id (by omega) (by omega), ← sn]
            exact ⟨_, rfl, x, rfl, J1, fin⟩
          · rw [if_pos rfl]
            rw [if_neg (fun y => z (eq.mpr y.2.2))] at sn
            rw [w32_id (by omega) (by omega), ← sn]
            exact ⟨_, rfl, x, rfl, J1, fin⟩
      · rw [if_neg b, aup_s Lk (by omega) (by omega)]
        simp only [Option.bind_some]
        generalize hy : hup k 194 (150 + r) 0 = y
        refine Or.inl ⟨(y, u), rfl, fun a ha => by dsimp only; rw [← hy, hup_off ha]; exact I1 a ha, fun i => ?_, ?_⟩
        · dsimp only
          rw [← hy, nx]
          by_cases e : i = 150 + r
          · rw [e, hup_at, if_pos rfl, if_pos ⟨al, by omega⟩]
          · rw [hup_ne (fun y => e y.2), if_neg e, I2]
            by_cases c : 348 + 4 * r ≤ i ∧ i < 348 + 4 * r + 4
            · rw [if_pos c, bc i c.1 c.2, if_neg (by omega), ps i c.1 c.2]
            · rw [if_neg c]
        · rw [sn, if_neg (fun y => b y.2.1), Int.add_zero]; exact I3
  · obtain ⟨k, u⟩ := a
    obtain ⟨I1, I2, I3⟩ := hI
    dsimp only at I1 I2 I3 ⊢
    unfold fX12_doesAll_s4
    dsimp only
    rw [if_neg (by decide), I3]
    refine ⟨_, rfl, k, rfl, funext (fun i => ?_), I1⟩
    rw [I2]
    unfold ptS
    by_cases c : (150 ≤ i ∧ i < 150 + 99) ∨ (348 ≤ i ∧ i < 348 + 4 * 99)
    · rw [if_pos c]
    · rw [if_neg c]
      unfold bldS
      rw [if_neg (by omega), if_neg (by omega)]
theorem inserts_ok (hs : SOk S) (hT : LOk S T) (hM : MC S T to h) (h0 : 0 ≤ S 148) (h1 : S 148 < 99) : ∃ k, fX12_inserts h 192 to = some k ∧ k 194 = insS S T ∧ ∀ a, a ≠ 194 → k a = h a := by
  have hw := hs.2.2.2.2.1 _ hT.2.1.1 hT.2.1.2
  have h4 := hs.1
  have hT1 := hT.2.1
  have hto := hM.2.2.1
  obtain ⟨hL, es, -, eln⟩ := hM
  have hM' : MC S T to h := ⟨hL, es, hto, eln⟩
  unfold fX12_inserts
  rw [hM'.s (by decide) (by decide)]
  simp only [Option.bind_some]
  rw [w32_id (x := 150 + S 148) (by omega) (by omega), aup_s hL (by omega) (by omega)]
  simp only [Option.bind_some]
  generalize hg : hup h 194 (150 + S 148) 1 = g
  have ga : ∀ a, a ≠ 194 → g a = h a := fun a ha => by rw [← hg, hup_off ha]
  have Lg : Lay g := by rw [← hg]; exact hL.upA (by decide) (by omega)
  have lng : ∀ (x : hH), (∀ a, a ≠ 194 → x a = h a) → ∀ i, 0 ≤ i → i < 20 → aget x (x 192 9) (to + i) = some (T i) := fun x hx i a b => by
    have := hM'.ln a b
    unfold aget at this ⊢
    rw [hx 192 (by decide)]
    rw [ly_192_9 hL] at this ⊢
    rw [hx 197 (by decide)]
    exact this
  rw [w32_id (x := to + 1) (by omega) (by omega), lng g ga 1 (by decide) (by decide)]
  simp only [Option.bind_some]
  rw [w32_id (x := 249 + S 148) (by omega) (by omega), aup_s Lg (by omega) (by omega)]
  simp only [Option.bind_some]
  generalize hk : hup g 194 (249 + S 148) (T 1) = k
  have ka : ∀ a, a ≠ 194 → k a = h a := fun a ha => by rw [← hk, hup_off ha, ga a ha]
  have Lk : Lay k := by rw [← hk]; exact Lg.upA (by decide) (by omega)
  have ks : ∀ i, k 194 i = if i = 150 + S 148 then 1 else if i = 249 + S 148 then T 1 else S i := fun i => by
    rw [← hk]
    by_cases a : i = 249 + S 148
    · rw [a, hup_at, if_neg (by omega), if_pos rfl]
    · rw [hup_ne (fun z => a z.2), ← hg]
      by_cases b : i = 150 + S 148
      · rw [b, hup_at, if_pos rfl]
      · rw [hup_ne (fun z => b z.2), if_neg b, if_neg a, es]
  refine lpO_inv (f := fX12_inserts_s40 k 192 to (S 148)) (h := k) 4 (fun c x => (∀ a, a ≠ 194 → x a = h a) ∧ Lay x ∧ ∀ i, x 194 i = if 348 + 4 * S 148 ≤ i ∧ i < 348 + 4 * S 148 + c then (if i - (348 + 4 * S 148) < S (4 + T 1) then T (3 + (i - (348 + 4 * S 148))) else -1) else k 194 i) (fun x => x 194 = insS S T ∧ ∀ a, a ≠ 194 → x a = h a) (fun c x c0 c1 hI => ?_) (fun x hI => ?_) (Int.le_refl _) (by decide) ⟨ka, Lk, fun i => by rw [if_neg (by omega)]⟩
  · obtain ⟨I1, I2, I3⟩ := hI
    have s4 : x 194 (4 + T 1) = S (4 + T 1) := by rw [I3, if_neg (by omega), ks, if_neg (by omega), if_neg (by omega)]
    have put1 : ∀ v, aput x (x 192 6) (w32 (w32 (348 + w32 (4 * S 148)) + c)) v = some (hup x 194 (348 + 4 * S 148 + c) v) := fun v => by
      rw [w32_id (x := 4 * S 148) (by omega) (by omega), w32_id (x := 348 + 4 * S 148) (by omega) (by omega), w32_id (by omega) (by omega), aup_s I2 (by omega) (by omega)]
    unfold fX12_inserts_s40 fX12_inserts_b91
    dsimp only
    rw [if_pos c1, w32_id (x := to + 1) (by omega) (by omega), lng x I1 1 (by decide) (by decide)]
    simp only [Option.bind_some]
    rw [w32_id (x := 4 + T 1) (by omega) (by omega), sgk I2 (by omega) (by omega), s4]
    simp only [Option.bind_some]
    have go : ∀ v, v = (if c < S (4 + T 1) then T (3 + c) else -1) → ∃ x', ((aput x (x 192 6) (w32 (w32 (348 + w32 (4 * S 148)) + c)) v).bind fun h91 => some (Sum.inl (β := hH) (h91, w32 (c + 1)))) = some (.inl (x', c + 1)) ∧ (∀ a, a ≠ 194 → x' a = h a) ∧ Lay x' ∧ ∀ i, x' 194 i = if 348 + 4 * S 148 ≤ i ∧ i < 348 + 4 * S 148 + (c + 1) then (if i - (348 + 4 * S 148) < S (4 + T 1) then T (3 + (i - (348 + 4 * S 148))) else -1) else k 194 i := fun v hv => by
      rw [put1]
      simp only [Option.bind_some]
      rw [w1 (by omega) (by omega)]
      refine ⟨_, rfl, fun a ha => by rw [hup_off ha]; exact I1 a ha, I2.upA (by decide) (by omega), fun i => ?_⟩
      by_cases e : i = 348 + 4 * S 148 + c
      · rw [e, hup_at, if_pos (show 348 + 4 * S 148 ≤ 348 + 4 * S 148 + c ∧ 348 + 4 * S 148 + c < 348 + 4 * S 148 + (c + 1) by omega), show 348 + 4 * S 148 + c - (348 + 4 * S 148) = c by omega]
        exact hv
      · rw [hup_ne (fun z => e z.2), I3]
        by_cases f : 348 + 4 * S 148 ≤ i ∧ i < 348 + 4 * S 148 + c
        · rw [if_pos f, if_pos (show 348 + 4 * S 148 ≤ i ∧ i < 348 + 4 * S 148 + (c + 1) by omega)]
        · rw [if_neg f, if_neg (show ¬ (348 + 4 * S 148 ≤ i ∧ i < 348 + 4 * S 148 + (c + 1)) by omega)]
    by_cases a : c < S (4 + T 1)
    · rw [if_pos a, w32_id (x := to + 3) (by omega) (by omega), w32_id (x := to + 3 + c) (by omega) (by omega), show to + 3 + c = to + (3 + c) by omega, lng x I1 (3 + c) (by omega) (by omega)]
      simp only [Option.bind_some]
      exact go _ (by rw [if_pos a])
    · rw [if_neg a]
      exact go _ (by rw [if_neg a])
  · obtain ⟨I1, I2, I3⟩ := hI
    unfold fX12_inserts_s40
    dsimp only
    rw [if_neg (by decide), sgk I2 (by decide) (by decide), I3, if_neg (by omega), ks, if_neg (by omega), if_neg (by omega)]
    simp only [Option.bind_some]
    rw [w32_id (x := S 148 + 1) (by omega) (by omega), aup_s I2 (by decide) (by decide)]
    simp only [Option.bind_some]
    refine ⟨_, rfl, funext (fun i => ?_), fun a ha => by rw [hup_off ha]; exact I1 a ha⟩
    unfold insS
    by_cases a : i = 148
    · rw [a, hup_at, if_pos rfl]
    · rw [hup_ne (fun z => a z.2), if_neg a, I3]
      by_cases b : 348 + 4 * S 148 ≤ i ∧ i < 348 + 4 * S 148 + 4
      · rw [if_pos b, if_neg (show ¬ i = 150 + S 148 by omega), if_neg (show ¬ i = 249 + S 148 by omega), if_pos (show 348 + 4 * S 148 ≤ i ∧ i < 352 + 4 * S 148 by omega)]
      · rw [if_neg b, ks, if_neg (show ¬ (348 + 4 * S 148 ≤ i ∧ i < 352 + 4 * S 148) by omega)]
theorem rowsNowM (hM : MC S T to h) (hbit : ∀ q, 0 ≤ q → q < 99 → S (150 + q) = 0 ∨ S (150 + q) = 1) : fX12_rowsNow h 192 = some ((liv S).length : Int) := by
  unfold fX12_rowsNow
  have key := lpO_invG (f := fX12_rowsNow_s4 h 192) (fun i (s : Int) => (s, i)) 99 (fun i s => s = ((rng 0 i).filter (fun q => S (150 + q) == 1)).length) (fun r => r = ((liv S).length : Int)) (fun i s i0 i1 hI => ?_) (fun s hI => ?_) (Int.le_refl 0) (by decide) (a := 0) rfl
  · obtain ⟨r, r1, r2⟩ := key
    rw [r1, r2]
  · have hl : ((rng 0 i).filter (fun q => S (150 + q) == 1)).length ≤ (rng 0 i).length := List.length_filter_le _ _
    rw [rng_len] at hl
    unfold fX12_rowsNow_s4
    dsimp only
    rw [if_pos i1, w32_id (x := 150 + i) (by omega) (by omega), hM.s (by omega) (by omega)]
    simp only [Option.bind_some]
    rw [w1 (by omega) (by omega), rng_snoc i0, List.filter_append, List.length_append]
    rcases hbit i i0 i1 with z | z
    · rw [z, List.filter_cons_of_neg (by simp [z]), w32_id (by omega) (by omega)]
      exact Or.inl ⟨_, rfl, by simp [hI]⟩
    · rw [z, List.filter_cons_of_pos (by simp [z]), w32_id (by omega) (by omega)]
      exact Or.inl ⟨_, rfl, by simp [hI]⟩
  · unfold fX12_rowsNow_s4
    dsimp only
    rw [if_neg (by decide)]
    exact ⟨_, rfl, hI⟩
end MJ
