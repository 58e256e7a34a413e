/-! READS, on -/
theorem lpO_fold {α σ ρ : Type} {f : σ → Option (σ ⊕ ρ)} (mk : Int → α → σ) (n : Int) (g : α → Int → α) (fin : α → ρ) (I : α → Prop) (hs : ∀ i a, 0 ≤ i → i < n → I a → f (mk i a) = some (.inl (mk (i + 1) (g a i))) ∧ I (g a i)) (he : ∀ a, I a → f (mk n a) = some (.inr (fin a))) (hn : 0 ≤ n) {a : α} (ha : I a) : lpO f (mk 0 a) = some (fin ((rng 0 n).foldl g a)) ∧ I ((rng 0 n).foldl g a) := by
  have key : ∀ (d : Nat) (i : Int) (a : α), (n - i).toNat = d → 0 ≤ i → i ≤ n → I a → lpO f (mk i a) = some (fin ((rng i n).foldl g a)) ∧ I ((rng i n).foldl g a) := by
    intro d
    induction d with
    | zero =>
      intro i a hd i0 i1 h
      have : i = n := by omega
      subst this
      rw [rng_nil (Int.le_refl _)]
      exact ⟨lpO_inr (he a h), h⟩
    | succ d ih =>
      intro i a hd i0 i1 h
      obtain ⟨s1, s2⟩ := hs i a i0 (by omega) h
      rw [lpO_inl s1, rng_cons (show i < n by omega)]
      exact ih (i + 1) _ (by omega) (by omega) (by omega) s2
  exact key _ 0 a rfl (Int.le_refl _) hn ha
theorem ifb {α : Type} {P : Prop} {d : Decidable P} {a b : α} : (if (@ite Int P d 1 0) = 0 then a else b) = @ite α P d b a := by
  by_cases z : P
  · rw [if_pos z, if_pos z, if_neg (by decide)]
  · rw [if_neg z, if_neg z, if_pos rfl]
section READS
variable {h : hH}
theorem slot14 (hL : Lay h) (h2 : StI h) (q : Int) : (0 ≤ q ∧ q < 99 ∧ h 194 (150 + q) = 1 ∧ ∃ i, 0 ≤ i ∧ i < h 14 0 ∧ h 15 i = q ∧ fX3_slotOf h 14 q = some i) ∨ (¬ (0 ≤ q ∧ q < 99 ∧ h 194 (150 + q) = 1) ∧ fX3_slotOf h 14 q = some (-1)) := slotOf_al (rowsAt14 hL) h2.rows q
theorem tableOf_ok (hL : Lay h) (h1 : SchI h) (h2 : StI h) (q : Int) : ∃ r, fX11_tableOf h 0 q = some r ∧ fX12_tableOf h 192 q = some (r, Th h) := by
  have hD := RD14 hL h1 h2
  have Lt := th_lay hL
  have es : Th h 194 = h 194 := th_off (by decide)
  unfold fX11_tableOf fX12_tableOf
  rw [ly_0_2 hL, ly_13_0 hL, th_p]
  simp only [Option.bind_some]
  rw [isRow_ok Lt, es]
  simp only [Option.bind_some, ifb]
  rcases slot14 hL h2 q with ⟨q0, q1, q2, i, i0, i1, i2, i3⟩ | ⟨q0, i3⟩
  · rw [i3, if_pos ⟨q0, q1, q2⟩]
    simp (disch := omega) only [Option.bind_some, w32_id, sgk Lt]
    rw [hD.2.2.2.1 i i0 i1, i2, es]
    exact ⟨_, rfl, rfl⟩
  · rw [i3, if_neg q0]
    simp only [Option.bind_some]
    rw [tableAt_out (Or.inl (by decide))]
    exact ⟨_, rfl, rfl⟩
theorem refers_ok (hL : Lay h) (h1 : SchI h) (h2 : StI h) (q f : Int) : ∃ r, fX11_refers h 0 q f = some r ∧ fX12_refers h 192 q f = some (r, Th h) := by
  have hD := RD14 hL h1 h2
  have Lt := th_lay hL
  have es : Th h 194 = h 194 := th_off (by decide)
  have hs := h1.2
  have hs2 := hs.2.2.1
  unfold fX11_refers fX12_refers
  rw [ly_0_1 hL, ly_0_2 hL, ly_13_0 hL, th_p, h1.1.1.2.2.1]
  simp only [Option.bind_some]
  rw [isRow_ok Lt, es]
  simp only [Option.bind_some, ifb]
  rcases slot14 hL h2 q with ⟨q0, q1, q2, i, i0, i1, i2, i3⟩ | ⟨q0, i3⟩
  · rw [i3, if_pos ⟨q0, q1, q2⟩]
    simp (disch := omega) only [Option.bind_some, w32_id, sgk Lt, es, isIn_ok, ifb, if_neg (show ¬ i = -1 by omega)]
    by_cases a : 0 ≤ f ∧ f < h 194 2
    · simp (disch := omega) only [if_neg (show ¬ f < 0 by omega), if_pos a.2, if_pos (show 0 ≤ f ∧ f ≤ h 194 2 - 1 by omega), Option.bind_some, w32_id, sgk Lt, es]
      have haim := aim_ok (rowsAt14 hL) h2.rows (schAt4 hL) h1.1 hs h2.2.2.2.1 i0 i1 a.1 a.2
      rw [show h (14 + 1) i = q from i2] at haim
      by_cases b : h 194 (249 + q) = h 194 (58 + f)
      · rw [if_pos b] at haim
        obtain ⟨j, j1, j2⟩ := haim
        rw [j1, if_pos b.symm, target_ok Lt (by rw [es]; exact hs) q0 q1 a.1 (by rw [es]; exact a.2), es]
        simp only [Option.bind_some]
        rcases j2 with ⟨c1, c2⟩ | ⟨c0, c1, c2⟩
        · rw [c2, numberAt_out (Or.inl (by decide)), c1]
          exact ⟨_, rfl, rfl⟩
        · rw [numberAt_in (rowsAt14 hL) hD.2.2.1 c0 c1, c2]
          exact ⟨_, rfl, rfl⟩
      · rw [if_neg b] at haim
        rw [haim, if_neg (fun z => b z.symm)]
        simp only [Option.bind_some]
        rw [numberAt_out (Or.inl (by decide))]
        exact ⟨_, rfl, rfl⟩
    · simp only [if_neg (show ¬ (0 ≤ f ∧ f ≤ h 194 2 - 1) by omega)]
      by_cases b : f < 0
      · rw [if_pos b]; exact ⟨-1, rfl, rfl⟩
      · rw [if_neg b, if_neg (by omega)]; exact ⟨-1, rfl, rfl⟩
  · rw [i3, if_neg q0]
    simp only [Option.bind_some, if_true]
    exact ⟨-1, rfl, rfl⟩
/-- how many refer to a row -/
noncomputable def refdS (S : Int → Int) (q : Int) : Int := sumR (S 2) (fun f => sumR 99 (fun j => @ite _ (0 ≤ j ∧ j < 99 ∧ S (150 + j) = 1 ∧ S (249 + j) = S (58 + f) ∧ tgS S j f = q) (Classical.propDecidable _) 1 0))
theorem i01 {P : Prop} : 0 ≤ @ite Int P (Classical.propDecidable _) 1 0 ∧ @ite Int P (Classical.propDecidable _) 1 0 ≤ 1 := by
  by_cases z : P
  · rw [if_pos z]; decide
  · rw [if_neg z]; decide
theorem referredTo_ok (hL : Lay h) (hs : SOk (h 194)) (q : Int) : fX12_referredTo h 192 q = some (refdS (h 194) q) := by
  have h2 := hs.2.2.1
  unfold fX12_referredTo refdS
  have b99 : ∀ f : Int, 0 ≤ sumR 99 (fun j => @ite Int (0 ≤ j ∧ j < 99 ∧ h 194 (150 + j) = 1 ∧ h 194 (249 + j) = h 194 (58 + f) ∧ tgS (h 194) j f = q) (Classical.propDecidable _) 1 0) ∧ sumR 99 (fun j => @ite Int (0 ≤ j ∧ j < 99 ∧ h 194 (150 + j) = 1 ∧ h 194 (249 + j) = h 194 (58 + f) ∧ tgS (h 194) j f = q) (Classical.propDecidable _) 1 0) ≤ 99 := fun f => sumR_b (M := 1) (by decide) (fun _ => i01) 99
  have key := lpO_sum (f := fX12_referredTo_s4 h 192 q) (fun s i => (s, i)) (h 194 2) 0 99 (fun f => sumR 99 (fun j => @ite Int (0 ≤ j ∧ j < 99 ∧ h 194 (150 + j) = 1 ∧ h 194 (249 + j) = h 194 (58 + f) ∧ tgS (h 194) j f = q) (Classical.propDecidable _) 1 0)) (fun s => s) (by decide) b99 (fun f s f0 f1 s0 s1 => by
    unfold fX12_referredTo_s4
    simp (disch := omega) only [sgk hL, Option.bind_some, if_pos f1]
    rw [lpO_sum (f := fX12_referredTo_s17 h 192 q f) (fun s i => (s, i)) 99 s 1 (fun j => @ite Int (0 ≤ j ∧ j < 99 ∧ h 194 (150 + j) = 1 ∧ h 194 (249 + j) = h 194 (58 + f) ∧ tgS (h 194) j f = q) (Classical.propDecidable _) 1 0) (fun s => .inl (s, f + 1)) (by decide) (fun _ => i01) (fun j s' j0 j1 s0' s1' => by
      unfold fX12_referredTo_s17 fX12_referredTo_b58 fX12_referredTo_b59
      simp (disch := omega) only [sgk hL, Option.bind_some, if_pos j1, w32_id, isRowOf_ok hL, target_ok hL hs]
      by_cases a : h 194 (150 + j) = 1 ∧ h 194 (249 + j) = h 194 (58 + f)
      · simp only [if_pos a, if_neg (show ¬ (1 : Int) = 0 by decide)]
        by_cases b : tgS (h 194) j f = q
        · rw [if_pos b, if_pos ⟨j0, j1, a.1, a.2, b⟩]
        · rw [if_neg b, if_neg (fun z => b z.2.2.2.2)]
      · simp only [if_neg a, if_true]
        rw [if_neg (fun z => a ⟨z.2.2.1, z.2.2.2.1⟩)]) (fun s _ _ => by
      unfold fX12_referredTo_s17
      simp (disch := omega) only [if_neg (show ¬ (99 : Int) < 99 by decide), w32_id]) (by decide)]) (fun s _ _ => by
    unfold fX12_referredTo_s4
    simp (disch := omega) only [sgk hL, Option.bind_some, if_neg (Int.lt_irrefl _)]) h2.1
  rw [key, Int.zero_add]
theorem referring_ok {p r : Int} {S : Int → Int} (hc : Ctx4 h r p S) (hs : SOk S) (hv : SVal S) {i : Int} (i0 : 0 ≤ i) (i1 : i < h r 0) : fX3_referring h r p i = some (refdS S (h (r + 1) i)) := by
  obtain ⟨hA, hR, hPA, hP⟩ := hc
  have h2 := hs.2.2.1
  have hn := hR.2.1
  have n0 := hR.1
  unfold fX3_referring
  have cell : ∀ j f, 0 ≤ j → j < h r 0 → 0 ≤ f → f < S 2 → ∃ x, fX3_aim h r p j f = some x ∧ (x = i ↔ S (249 + h (r + 1) j) = S (58 + f) ∧ tgS S (h (r + 1) j) f = h (r + 1) i) := by
    intro j f j0 j1 f0 f1
    have ha := aim_ok hA hR hPA hP hs hv j0 j1 f0 f1
    by_cases b : S (249 + h (r + 1) j) = S (58 + f)
    · rw [if_pos b] at ha
      obtain ⟨x, x1, x2⟩ := ha
      refine ⟨x, x1, ⟨fun z => ⟨b, ?_⟩, fun z => ?_⟩⟩
      · rcases x2 with ⟨c1, c2⟩ | ⟨c0, c1, c2⟩
        · omega
        · rw [← c2, z]
      · rcases x2 with ⟨c1, c2⟩ | ⟨c0, c1, c2⟩
        · have := (hR.2.2.1 i i0 i1).1
          rw [c1] at z
          omega
        · exact num_inj hR c0 c1 i0 i1 (c2.trans z.2)
    · rw [if_neg b] at ha
      exact ⟨-1, ha, fun z => by omega, fun z => absurd z.1 b⟩
  have b6 : ∀ j : Int, 0 ≤ sumR (S 2) (fun f => @ite Int (S (249 + h (r + 1) j) = S (58 + f) ∧ tgS S (h (r + 1) j) f = h (r + 1) i) (Classical.propDecidable _) 1 0) ∧ sumR (S 2) (fun f => @ite Int (S (249 + h (r + 1) j) = S (58 + f) ∧ tgS S (h (r + 1) j) f = h (r + 1) i) (Classical.propDecidable _) 1 0) ≤ 6 := fun j => by
    have := sumR_b (M := 1) (by decide) (g := fun f => @ite Int (S (249 + h (r + 1) j) = S (58 + f) ∧ tgS S (h (r + 1) j) f = h (r + 1) i) (Classical.propDecidable _) 1 0) (fun _ => i01) (S 2).toNat
    rw [show (((S 2).toNat : Nat) : Int) = S 2 by omega] at this
    omega
  have key := lpO_sum (f := fX3_referring_s5 h r p i) (fun s j => (s, j)) (h r 0) 0 6 (fun j => sumR (S 2) (fun f => @ite Int (S (249 + h (r + 1) j) = S (58 + f) ∧ tgS S (h (r + 1) j) f = h (r + 1) i) (Classical.propDecidable _) 1 0)) (fun s => s) (by decide) b6 (fun j s j0 j1 s0 s1 => by
    unfold fX3_referring_s5
    simp only [if_pos j1]
    rw [lpO_sum (f := fX3_referring_s17 h r p i j) (fun s f => (s, f)) (S 2) s 1 (fun f => @ite Int (S (249 + h (r + 1) j) = S (58 + f) ∧ tgS S (h (r + 1) j) f = h (r + 1) i) (Classical.propDecidable _) 1 0) (fun s => .inl (s, j + 1)) (by decide) (fun _ => i01) (fun f s' f0 f1 s0' s1' => by
      obtain ⟨x, x1, x2⟩ := cell j f j0 j1 f0 f1
      unfold fX3_referring_s17
      simp (disch := omega) only [hP.1.2.2.1, if_pos f1, x1, Option.bind_some, w32_id]
      by_cases z : x = i
      · rw [if_pos z, if_pos (x2.mp z)]
      · rw [if_neg z, if_neg (fun y => z (x2.mpr y)), Int.add_zero]) (fun s _ _ => by
      unfold fX3_referring_s17
      simp (disch := omega) only [hP.1.2.2.1, if_neg (Int.lt_irrefl _), w32_id]) h2.1]) (fun s _ _ => by
    unfold fX3_referring_s5
    simp only [if_neg (Int.lt_irrefl _)]) n0
  rw [key, Int.zero_add]
  congr 1
  have e2 : ∀ f, sumR 99 (fun j => @ite Int (0 ≤ j ∧ j < 99 ∧ S (150 + j) = 1 ∧ S (249 + j) = S (58 + f) ∧ tgS S j f = h (r + 1) i) (Classical.propDecidable _) 1 0) = sumR (h r 0) (fun j => @ite Int (S (249 + h (r + 1) j) = S (58 + f) ∧ tgS S (h (r + 1) j) f = h (r + 1) i) (Classical.propDecidable _) 1 0) := by
    intro f
    rw [sum_rows (n := h r 0) (N := h (r + 1)) (S := S) (g := fun j => @ite Int (0 ≤ j ∧ j < 99 ∧ S (150 + j) = 1 ∧ S (249 + j) = S (58 + f) ∧ tgS S j f = h (r + 1) i) (Classical.propDecidable _) 1 0) (alv_eq hR) hR.2.2.2.2.1 (fun j j0 j1 hz => if_neg (fun z => by rw [hz] at z; exact absurd z.2.2.1 (by decide)))]
    unfold sumR
    congr 1
    apply List.map_congr_left
    intro j hj
    obtain ⟨j0, j1⟩ := mem_rng.mp hj
    obtain ⟨m0, m1, m2, -⟩ := hR.2.2.1 j j0 j1
    by_cases z : S (249 + h (r + 1) j) = S (58 + f) ∧ tgS S (h (r + 1) j) f = h (r + 1) i
    · rw [if_pos z, if_pos ⟨m0, m1, m2, z.1, z.2⟩]
    · rw [if_neg z, if_neg (fun y => z y.2.2.2)]
  unfold refdS
  rw [show (fun f => sumR 99 (fun j => @ite Int (0 ≤ j ∧ j < 99 ∧ S (150 + j) = 1 ∧ S (249 + j) = S (58 + f) ∧ tgS S j f = h (r + 1) i) (Classical.propDecidable _) 1 0)) = fun f => sumR (h r 0) (fun j => @ite Int (S (249 + h (r + 1) j) = S (58 + f) ∧ tgS S (h (r + 1) j) f = h (r + 1) i) (Classical.propDecidable _) 1 0) from funext e2]
  unfold sumR
  exact sumR_swap
theorem referred_ok (hL : Lay h) (h1 : SchI h) (h2 : StI h) (q : Int) : ∃ r, fX11_referred h 0 q = some r ∧ fX12_referred h 192 q = some (r, Th h) := by
  have Lt := th_lay hL
  have es : Th h 194 = h 194 := th_off (by decide)
  have hs := h1.2
  unfold fX11_referred fX12_referred
  rw [ly_0_1 hL, ly_0_2 hL, ly_13_0 hL, th_p]
  simp only [Option.bind_some]
  rw [isRow_ok Lt, es]
  simp only [Option.bind_some, ifb]
  rcases slot14 hL h2 q with ⟨q0, q1, q2, i, i0, i1, i2, i3⟩ | ⟨q0, i3⟩
  · rw [i3, if_pos ⟨q0, q1, q2⟩]
    simp only [Option.bind_some]
    rw [if_neg (by omega), referring_ok (ctx14 hL h1 h2) hs h2.2.2.2.1 i0 i1, referredTo_ok Lt (by rw [es]; exact hs), es]
    rw [show h (14 + 1) i = q from i2]
    exact ⟨_, rfl, rfl⟩
  · rw [i3, if_neg q0]
    simp only [Option.bind_some, if_true]
    exact ⟨-1, rfl, rfl⟩
theorem count_ok (hL : Lay h) (h1 : SchI h) (hT : TapeR h) (what : Int) : ∃ r, fX11_count h 0 what = some r ∧ fX12_count h 192 what = some (r, Th h) := by
  have Lt := th_lay hL
  have es : Th h 194 = h 194 := th_off (by decide)
  obtain ⟨⟨e0, e1, e2, e3⟩, -⟩ := h1.1
  unfold fX11_count fX12_count
  rw [ly_0_0 hL, ly_0_1 hL, th_p, e0, e1, e2, e3]
  simp only [Option.bind_some, isIn_ok, ifb]
  by_cases a : what = 4
  · subst a
    simp only [if_true, if_neg (show ¬ (4 : Int) = 0 by decide), if_neg (show ¬ (4 : Int) = 1 by decide), if_neg (show ¬ (4 : Int) = 2 by decide), if_neg (show ¬ (4 : Int) = 3 by decide)]
    rw [th_ne (by decide), hT.1]
    exact ⟨_, rfl, rfl⟩
  · simp only [if_neg a]
    by_cases b : 0 ≤ what ∧ what ≤ 3
    · simp (disch := omega) only [if_pos b, sgk Lt, es, Option.bind_some]
      by_cases c0 : what = 0
      · subst c0; exact ⟨_, rfl, rfl⟩
      · by_cases c1 : what = 1
        · subst c1; exact ⟨_, rfl, rfl⟩
        · by_cases c2 : what = 2
          · subst c2; exact ⟨_, rfl, rfl⟩
          · have : what = 3 := by omega
            subst this; exact ⟨_, rfl, rfl⟩
    · simp only [if_neg b, if_neg (show ¬ what = 0 by omega), if_neg (show ¬ what = 1 by omega), if_neg (show ¬ what = 2 by omega), if_neg (show ¬ what = 3 by omega)]
      exact ⟨_, rfl, rfl⟩
theorem ref_ok (hL : Lay h) (h1 : SchI h) (f what : Int) : ∃ r, fX11_ref h 0 f what = some r ∧ fX12_ref h 192 f what = some (r, Th h) := by
  have Lt := th_lay hL
  have es : Th h 194 = h 194 := th_off (by decide)
  have hs2 := h1.2.2.2.1
  unfold fX11_ref fX12_ref fX11_ref_b25
  rw [ly_0_1 hL, th_p, h1.1.1.2.2.1]
  simp only [Option.bind_some]
  rw [sgk Lt (k := 2) (by decide) (by decide), es]
  simp only [Option.bind_some]
  rw [isIn_ok, w32_id (by omega) (by omega)]
  simp only [Option.bind_some, ifb]
  by_cases a : 0 ≤ f ∧ f < h 194 2
  · obtain ⟨p0, p1, p2, p3, p4, p5, p6, -, -⟩ := refPart_ok (schAt4 hL) h1.1 h1.2 a.1 a.2
    rw [if_neg (show ¬ f < 0 by omega), if_pos a.2, if_pos (show 0 ≤ f ∧ f ≤ h 194 2 - 1 by omega)]
    by_cases b : 0 ≤ what ∧ what ≤ 6
    · rw [if_neg (show ¬ what < 0 by omega), if_neg (show ¬ 6 < what by omega)]
      have g : ∀ k, 58 ≤ k → k ≤ 106 → (aget (Th h) (Th h 192 6) (w32 (k + f))).bind (fun v => some (v, Th h)) = some (h 194 (k + f), Th h) := fun k k0 k1 => by
        rw [w32_id (by omega) (by omega), sgk Lt (by omega) (by omega), es]
        rfl
      have : what = 0 ∨ what = 1 ∨ what = 2 ∨ what = 3 ∨ what = 4 ∨ what = 5 ∨ what = 6 := by omega
      rcases this with rfl | rfl | rfl | rfl | rfl | rfl | rfl
      · rw [p0, if_pos rfl, g _ (by decide) (by decide)]; exact ⟨_, rfl, rfl⟩
      · rw [p1, if_neg (by decide), if_pos rfl, g _ (by decide) (by decide)]; exact ⟨_, rfl, rfl⟩
      · rw [p2, if_neg (by decide), if_neg (by decide), if_pos rfl, g _ (by decide) (by decide)]; exact ⟨_, rfl, rfl⟩
      · rw [p3, if_neg (by decide), if_neg (by decide), if_neg (by decide), if_pos rfl, g _ (by decide) (by decide)]; exact ⟨_, rfl, rfl⟩
      · rw [p4, if_neg (by decide), if_neg (by decide), if_neg (by decide), if_neg (by decide), if_pos rfl, g _ (by decide) (by decide)]; exact ⟨_, rfl, rfl⟩
      · rw [p5, if_neg (by decide), if_neg (by decide), if_neg (by decide), if_neg (by decide), if_neg (by decide), if_pos rfl, g _ (by decide) (by decide)]; exact ⟨_, rfl, rfl⟩
      · rw [p6, if_neg (by decide), if_neg (by decide), if_neg (by decide), if_neg (by decide), if_neg (by decide), if_neg (by decide), if_pos rfl, g _ (by decide) (by decide)]; exact ⟨_, rfl, rfl⟩
    · simp only [if_neg (show ¬ what = 0 by omega), if_neg (show ¬ what = 1 by omega), if_neg (show ¬ what = 2 by omega), if_neg (show ¬ what = 3 by omega), if_neg (show ¬ what = 4 by omega), if_neg (show ¬ what = 5 by omega), if_neg (show ¬ what = 6 by omega)]
      by_cases c : what < 0
      · simp only [if_pos c]; exact ⟨_, rfl, rfl⟩
      · simp only [if_neg c, if_pos (show 6 < what by omega)]; exact ⟨_, rfl, rfl⟩
  · rw [if_neg (show ¬ (0 ≤ f ∧ f ≤ h 194 2 - 1) by omega)]
    by_cases b : f < 0
    · rw [if_pos b]; exact ⟨-1, rfl, rfl⟩
    · rw [if_neg b, if_neg (by omega)]; exact ⟨-1, rfl, rfl⟩
end READS
